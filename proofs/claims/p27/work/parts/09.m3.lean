def wp_X3_forgetOldest_L9 (G : k_G) (post : k_M → Prop) : Nat → Nat → Nat → Int32 → k_M → Prop
  | 0 => fun _ _ _ _ => False
  | n + 1 => fun x0 x1 x2 M =>
  (((6 : Int32) ≤ x2 →
      (∃ fs12 v13, M x0 = some (kO 4 fs12) ∧ fs12[1]? = some (.ref v13) ∧
        (∃ n16 f17 fs21, M v13 = some (kO2 G n16 f17) ∧ M x1 = some (kO 3 fs21) ∧ vp_in (5 : Int32) n16 ∧ ∀ M18 : k_M, M18 = va_up M v13 (some (kO2 G n16 (va_up f17 ((5 : Int32)).toNatClampNeg (some x1)))) →
        (∃ fs23, M18 x0 = some (kO 4 fs23) ∧ 2 < fs23.length ∧ ∀ M24 : k_M, M24 = va_up M18 x0 (some (kO 4 (fs23.set 2 (.int (5 : Int32))))) →
        post M24)))) ∧
      (¬ (6 : Int32) ≤ x2 →
      (∃ fs27 v28, M x0 = some (kO 4 fs27) ∧ fs27[1]? = some (.ref v28) ∧
        (∃ fs31 v32, M x0 = some (kO 4 fs31) ∧ fs31[1]? = some (.ref v32) ∧
        (∃ n35 f36 v37, M v32 = some (kO2 G n35 f36) ∧ vp_in x2 n35 ∧ f36 (x2).toNatClampNeg = some v37 ∧
        (∃ n41 f42 fs46, M v28 = some (kO2 G n41 f42) ∧ M v37 = some (kO 3 fs46) ∧ vp_in (x2 - (1 : Int32)) n41 ∧ ∀ M43 : k_M, M43 = va_up M v28 (some (kO2 G n41 (va_up f42 ((x2 - (1 : Int32))).toNatClampNeg (some v37)))) →
        (wp_X3_forgetOldest_L9 G post n) x0 x1 (x2 + (1 : Int32)) M43))))))
def wp_X3_forgetOldest (G : k_G) (post : k_M → Prop) (p0 : Nat) (M0 : k_M) : Prop :=
  (∃ fs1 v2, M0 p0 = some (kO 4 fs1) ∧ fs1[1]? = some (.ref v2) ∧
  (∃ n5 f6 v7, M0 v2 = some (kO2 G n5 f6) ∧ vp_in (0 : Int32) n5 ∧ f6 ((0 : Int32)).toNatClampNeg = some v7 ∧
  ∃ k11, wp_X3_forgetOldest_L9 G post k11 p0 v7 (1 : Int32) M0))
theorem in_X3_forgetOldest_X3 : ∀ w ∈ wsX30, w ∈ wsX3_forgetOldest := by decide +kernel
set_option maxHeartbeats 4000000 in
set_option maxRecDepth 100000 in
theorem c_X3_forgetOldest (l : Launch) (G : k_G) (M0 : k_M) (sz : Nat) (post : k_M → Prop) (p0 : Nat) (h : wp_X3_forgetOldest G post p0 M0) : Met l yX3_forgetOldest wsX3_forgetOldest ({ frames := 0, cells := 0, slots := 0, locals := 0 }) (va_Pc [.ref p0] (kPre G M0 sz)) (va_Qv post (kB G M0 sz) (kA M0 sz)) 0 0 (kA M0 sz) := by
  refine Met.ofW (cc := cX3_forgetOldest) (maxL := 3) (ret := none) (by decide) rfl ?_
  intro p e s m args below meth c s₁ B hml hv
  obtain ⟨rfl, hsz, hR, hE⟩ := hv
  have hx := B.exec
  have hb := B.bytes
  have hr := B.returns
  have hts := atoms_spec (ws := wsX3_forgetOldest) B.pre
  have hown : s.vm.findClass RX3 = some m.cls := findClass_of_methodNamed B.named
  have hlocks := B.notSynchronized
  subst hsz
  have hK := hE.1
  have hA : ∀ q, s.heap.size ≤ q → kA M0 s.heap.size q := kA.new
  have hS : va_S (kA M0 s.heap.size) s.heap s.heap [] := va_S.rf
  have hw1 := hts (.fieldLink RX3 16 "ForkedStamps" "history" "[LForkedStamps$State;") (by decide +kernel)
  have hw2 := hts (.fieldLink RX3 163 "ForkedStamps" "historyCount" "I") (by decide +kernel)
  have L9 : ∀ (n : Nat), ∀ (x0 : Nat) (x1 : Nat) (x2 : Int32) (M : k_M) (H : Heap) (locs : List Loc) (ls : Array Slot), wp_X3_forgetOldest_L9 G post n x0 x1 x2 M → lv_has ls 3 [(0, .ref x0), (1, .ref x1), (2, .int x2)] → kR G M (kA M0 s.heap.size) H → va_S (kA M0 s.heap.size) s.heap H locs → W p l e (headSpec wsX3_forgetOldest ({ frames := 0, cells := 0, slots := 0, locals := 0 })).room s m ([.ref p0] : List Value).toArray below meth c H locs 0 0 (MQ below (va_Qv post (kB G M0 s.heap.size) (kA M0 s.heap.size)) ([.ref p0] : List Value).toArray s 0 0 (kA M0 s.heap.size)) (F0 m 9 ls []) := by
    intro n
    induction n with
    | zero =>
      intro  x0 x1 x2 M H locs ls h
      exact False.elim h
    | succ n ih =>
      intro  x0 x1 x2 M H locs ls h hl hR hS
      refine lv_iload_n hx hb dX3_forgetOldest_9 rfl (lv_at hl 2 rfl) ?_
      refine lv_bipush (v := (6 : Int32)) hx hb dX3_forgetOldest_10 (by decide) ?_
      obtain ⟨ha, hb2⟩ := h
      refine lv_icmp_ge (tgt := 35) hx hb dX3_forgetOldest_12 (by decide) (fun hc => ?_) (fun hc => ?_)
      · replace h := ha hc
        refine lv_aload_n hx hb dX3_forgetOldest_35 rfl (lv_at hl 0 rfl) ?_
        obtain ⟨fs12, v13, hm14, hv15, h⟩ := h
        refine k_get (ci := 4) (C := RX3) (T := TX3) (N := 8) hx hb hts in_X3_forgetOldest_X3 hown hK hR hm14 rfl 1 (by decide) hw1 (fun _ h9 => h9) hv15 dX3_forgetOldest_36 ?_
        refine lv_iconst (v := (5 : Int32)) hx hb dX3_forgetOldest_39 (by decide) ?_
        refine lv_aload_n hx hb dX3_forgetOldest_40 rfl (lv_at hl 1 rfl) ?_
        obtain ⟨n16, f17, fs21, hm19, hq22, hv20, h⟩ := h
        replace h := h _ rfl
        refine k_ast2 hx hb hK hR hS hm19 hq22 hv20 dX3_forgetOldest_41 (fun H locs hR hS => ?_)
        refine lv_aload_n hx hb dX3_forgetOldest_42 rfl (lv_at hl 0 rfl) ?_
        refine lv_iconst (v := (5 : Int32)) hx hb dX3_forgetOldest_43 (by decide) ?_
        obtain ⟨fs23, hm25, hk26, h⟩ := h
        replace h := h _ rfl
        refine k_put (ci := 4) (v := .int (5 : Int32)) (ty := .int) (C := RX3) (T := TX3) (N := 8) hx hb hts in_X3_forgetOldest_X3 tyX3 tyX3_ok nmX3 hown hK hR hS hm25 rfl 2 (by decide) hw2 (fun _ h9 => h9) rfl (by decide +kernel) rfl rfl hk26 dX3_forgetOldest_44 (fun H locs hR hS => ?_)
        exact k_retv hx hb hr hlocks hR hS h dX3_forgetOldest_47
      · replace h := hb2 hc
        refine lv_aload_n hx hb dX3_forgetOldest_15 rfl (lv_at hl 0 rfl) ?_
        obtain ⟨fs27, v28, hm29, hv30, h⟩ := h
        refine k_get (ci := 4) (C := RX3) (T := TX3) (N := 8) hx hb hts in_X3_forgetOldest_X3 hown hK hR hm29 rfl 1 (by decide) hw1 (fun _ h9 => h9) hv30 dX3_forgetOldest_16 ?_
        refine lv_iload_n hx hb dX3_forgetOldest_19 rfl (lv_at hl 2 rfl) ?_
        refine lv_iconst (v := (1 : Int32)) hx hb dX3_forgetOldest_20 (by decide) ?_
        refine lv_isub hx hb dX3_forgetOldest_21 ?_
        refine lv_aload_n hx hb dX3_forgetOldest_22 rfl (lv_at hl 0 rfl) ?_
        obtain ⟨fs31, v32, hm33, hv34, h⟩ := h
        refine k_get (ci := 4) (C := RX3) (T := TX3) (N := 8) hx hb hts in_X3_forgetOldest_X3 hown hK hR hm33 rfl 1 (by decide) hw1 (fun _ h9 => h9) hv34 dX3_forgetOldest_23 ?_
        refine lv_iload_n hx hb dX3_forgetOldest_26 rfl (lv_at hl 2 rfl) ?_
        obtain ⟨n35, f36, v37, hm38, hv39, hq40, h⟩ := h
        refine k_ald2 hx hb hK hR hm38 hv39 hq40 dX3_forgetOldest_27 ?_
        obtain ⟨n41, f42, fs46, hm44, hq47, hv45, h⟩ := h
        replace h := h _ rfl
        refine k_ast2 hx hb hK hR hS hm44 hq47 hv45 dX3_forgetOldest_28 (fun H locs hR hS => ?_)
        refine lv_iinc (v := (x2 + (1 : Int32))) (lv' := [(2, .int (x2 + (1 : Int32))), (0, .ref x0), (1, .ref x1)]) hx hb dX3_forgetOldest_29 hl (k := 2) rfl rfl (by decide) rfl (fun ls hl => ?_)
        refine lv_goto (tgt := 9) hx hb dX3_forgetOldest_32 (by decide) ?_
        exact ih _ _ _ _ _ _ _ h (lv_sub hl [1, 2, 0] rfl) hR hS
  have hl := lv_entry ([.ref p0]) (n := 3) (Nat.le_of_ble_eq_true rfl)
  rw [lg_entry_eq]
  generalize (lg_sl ([.ref p0]) ++ List.replicate (3 - (lg_sl ([.ref p0])).length) Slot.unset).toArray = ls at hl ⊢
  have hl : lv_has ls 3 [(0, .ref p0)] := hl
  have hR0 := hR
  refine lv_aload_n hx hb dX3_forgetOldest_0 rfl (lv_at hl 0 rfl) ?_
  obtain ⟨fs1, v2, hm3, hv4, h⟩ := h
  refine k_get (ci := 4) (C := RX3) (T := TX3) (N := 8) hx hb hts in_X3_forgetOldest_X3 hown hK hR hm3 rfl 1 (by decide) hw1 (fun _ h9 => h9) hv4 dX3_forgetOldest_1 ?_
  refine lv_iconst (v := (0 : Int32)) hx hb dX3_forgetOldest_4 (by decide) ?_
  obtain ⟨n5, f6, v7, hm8, hv9, hq10, h⟩ := h
  refine k_ald2 hx hb hK hR hm8 hv9 hq10 dX3_forgetOldest_5 ?_
  refine lv_astore_n (lv' := [(1, .ref v7), (0, .ref p0)]) hx hb dX3_forgetOldest_6 rfl hl (by decide) rfl (fun ls hl => ?_)
  refine lv_iconst (v := (1 : Int32)) hx hb dX3_forgetOldest_7 (by decide) ?_
  refine lv_istore_n (lv' := [(2, .int (1 : Int32)), (1, .ref v7), (0, .ref p0)]) hx hb dX3_forgetOldest_8 rfl hl (by decide) rfl (fun ls hl => ?_)
  obtain ⟨k11, h⟩ := h
  exact L9 k11 _ _ _ _ _ _ _ h (lv_sub hl [2, 1, 0] rfl) hR hS

def wp_X3_remember_b13 (G : k_G) (post : k_M → Prop) (x0 : Nat) (M : k_M) : Prop :=
  (∃ fs5 v6, M x0 = some (kO 4 fs5) ∧ fs5[1]? = some (.ref v6) ∧
    (∃ fs9 v10, M x0 = some (kO 4 fs9) ∧ fs9[2]? = some (.int v10) ∧
    (∃ n13 f14 v15, M v6 = some (kO2 G n13 f14) ∧ vp_in v10 n13 ∧ f14 (v10).toNatClampNeg = some v15 ∧
    (∃ fs19 v20, M x0 = some (kO 4 fs19) ∧ fs19[0]? = some (.ref v20) ∧
    (∃ fs26, M v15 = some (kO 3 fs26) ∧ wp_X2_become G (fun M24 =>
    (∃ fs27 v28, M24 x0 = some (kO 4 fs27) ∧ fs27[2]? = some (.int v28) ∧
    (∃ fs31, M24 x0 = some (kO 4 fs31) ∧ 2 < fs31.length ∧ ∀ M32 : k_M, M32 = va_up M24 x0 (some (kO 4 (fs31.set 2 (.int (v28 + (1 : Int32)))))) →
    post M32))) v15 v20 M)))))
def wp_X3_remember (G : k_G) (post : k_M → Prop) (p0 : Nat) (M0 : k_M) : Prop :=
  (∃ fs1 v2, M0 p0 = some (kO 4 fs1) ∧ fs1[2]? = some (.int v2) ∧
  ((v2 < (6 : Int32) →
  wp_X3_remember_b13 G post p0 M0) ∧
  (¬ v2 < (6 : Int32) →
  (∃ fs38, M0 p0 = some (kO 4 fs38) ∧ wp_X3_forgetOldest G (fun M36 =>
    wp_X3_remember_b13 G post p0 M36) p0 M0))))
theorem in_X3_remember_X3 : ∀ w ∈ wsX30, w ∈ wsX3_remember := by decide +kernel
set_option maxHeartbeats 4000000 in
set_option maxRecDepth 100000 in
theorem c_X3_remember (l : Launch) (G : k_G) (M0 : k_M) (sz : Nat) (post : k_M → Prop) (p0 : Nat) (h : wp_X3_remember G post p0 M0) : Met l yX3_remember wsX3_remember ({ frames := 3, cells := 0, slots := 0, locals := 83 }) (va_Pc [.ref p0] (kPre G M0 sz)) (va_Qv post (kB G M0 sz) (kA M0 sz)) 0 0 (kA M0 sz) := by
  refine Met.ofW (cc := cX3_remember) (maxL := 1) (ret := none) (by decide) rfl ?_
  intro p e s m args below meth c s₁ B hml hv
  obtain ⟨rfl, hsz, hR, hE⟩ := hv
  have hx := B.exec
  have hb := B.bytes
  have hr := B.returns
  have hts := atoms_spec (ws := wsX3_remember) B.pre
  have hown : s.vm.findClass RX3 = some m.cls := findClass_of_methodNamed B.named
  have hlocks := B.notSynchronized
  subst hsz
  have hK := hE.1
  have hA : ∀ q, s.heap.size ≤ q → kA M0 s.heap.size q := kA.new
  have hS : va_S (kA M0 s.heap.size) s.heap s.heap [] := va_S.rf
  have hw1 := hts (.fieldLink RX3 163 "ForkedStamps" "historyCount" "I") (by decide +kernel)
  have hw2 := hts (.fieldLink RX3 16 "ForkedStamps" "history" "[LForkedStamps$State;") (by decide +kernel)
  have hw3 := hts (.fieldLink RX3 10 "ForkedStamps" "now" "LForkedStamps$State;") (by decide +kernel)
  have b13 : ∀ (x0 : Nat) (M : k_M) (H : Heap) (locs : List Loc) (ls : Array Slot), wp_X3_remember_b13 G post x0 M → lv_has ls 1 [(0, .ref x0)] → kR G M (kA M0 s.heap.size) H → va_S (kA M0 s.heap.size) s.heap H locs → W p l e (headSpec wsX3_remember ({ frames := 3, cells := 0, slots := 0, locals := 83 })).room s m ([.ref p0] : List Value).toArray below meth c H locs 0 0 (MQ below (va_Qv post (kB G M0 s.heap.size) (kA M0 s.heap.size)) ([.ref p0] : List Value).toArray s 0 0 (kA M0 s.heap.size)) (F0 m 13 ls []) := by
    intro x0 M H locs ls h hl hR hS
    refine lv_aload_n hx hb dX3_remember_13 rfl (lv_at hl 0 rfl) ?_
    obtain ⟨fs5, v6, hm7, hv8, h⟩ := h
    refine k_get (ci := 4) (C := RX3) (T := TX3) (N := 8) hx hb hts in_X3_remember_X3 hown hK hR hm7 rfl 1 (by decide) hw2 (fun _ h9 => h9) hv8 dX3_remember_14 ?_
    refine lv_aload_n hx hb dX3_remember_17 rfl (lv_at hl 0 rfl) ?_
    obtain ⟨fs9, v10, hm11, hv12, h⟩ := h
    refine k_get (ci := 4) (C := RX3) (T := TX3) (N := 8) hx hb hts in_X3_remember_X3 hown hK hR hm11 rfl 2 (by decide) hw1 (fun _ h9 => h9) hv12 dX3_remember_18 ?_
    obtain ⟨n13, f14, v15, hm16, hv17, hq18, h⟩ := h
    refine k_ald2 hx hb hK hR hm16 hv17 hq18 dX3_remember_21 ?_
    refine lv_aload_n hx hb dX3_remember_22 rfl (lv_at hl 0 rfl) ?_
    obtain ⟨fs19, v20, hm21, hv22, h⟩ := h
    refine k_get (ci := 4) (C := RX3) (T := TX3) (N := 8) hx hb hts in_X3_remember_X3 hown hK hR hm21 rfl 0 (by decide) hw3 (fun _ h9 => h9) hv22 dX3_remember_23 ?_
    obtain ⟨fs26, hm25, h⟩ := h
    refine k_callv0 (va_runV (As := [.ref v20]) (rest := []) ⟨hx, hb, hml, hown, hts⟩ (c_X2_become l G _ _ _ v15 v20 h) (cwV 1 hts gX3_remember_X2_become rfl rfl rfl (by decide +kernel) ⟨Nat.le_of_ble_eq_true rfl, Nat.le_of_ble_eq_true rfl⟩) (k_preV (q := (RX2, TX2, 7)) hm25 rfl hR hS hA hE) rfl rfl hl.1 rfl (lv_room (Nat.le_of_ble_eq_true rfl)) dX3_remember_26 ⟨Nat.zero_le _, Nat.zero_le _⟩) hR hS hA (fun M24 H locs h hR hS => ?_)
    refine lv_aload_n hx hb dX3_remember_29 rfl (lv_at hl 0 rfl) ?_
    refine lv_dup hx hb dX3_remember_30 rfl ?_
    obtain ⟨fs27, v28, hm29, hv30, h⟩ := h
    refine k_get (ci := 4) (C := RX3) (T := TX3) (N := 8) hx hb hts in_X3_remember_X3 hown hK hR hm29 rfl 2 (by decide) hw1 (fun _ h9 => h9) hv30 dX3_remember_31 ?_
    refine lv_iconst (v := (1 : Int32)) hx hb dX3_remember_34 (by decide) ?_
    refine lv_iadd hx hb dX3_remember_35 ?_
    obtain ⟨fs31, hm33, hk34, h⟩ := h
    replace h := h _ rfl
    refine k_put (ci := 4) (v := .int (v28 + (1 : Int32))) (ty := .int) (C := RX3) (T := TX3) (N := 8) hx hb hts in_X3_remember_X3 tyX3 tyX3_ok nmX3 hown hK hR hS hm33 rfl 2 (by decide) hw1 (fun _ h9 => h9) rfl (by decide +kernel) rfl rfl hk34 dX3_remember_36 (fun H locs hR hS => ?_)
    exact k_retv hx hb hr hlocks hR hS h dX3_remember_39
  have hl := lv_entry ([.ref p0]) (n := 1) (Nat.le_of_ble_eq_true rfl)
  rw [lg_entry_eq]
  generalize (lg_sl ([.ref p0]) ++ List.replicate (1 - (lg_sl ([.ref p0])).length) Slot.unset).toArray = ls at hl ⊢
  have hl : lv_has ls 1 [(0, .ref p0)] := hl
  have hR0 := hR
  refine lv_aload_n hx hb dX3_remember_0 rfl (lv_at hl 0 rfl) ?_
  obtain ⟨fs1, v2, hm3, hv4, h⟩ := h
  refine k_get (ci := 4) (C := RX3) (T := TX3) (N := 8) hx hb hts in_X3_remember_X3 hown hK hR hm3 rfl 2 (by decide) hw1 (fun _ h9 => h9) hv4 dX3_remember_1 ?_
  refine lv_bipush (v := (6 : Int32)) hx hb dX3_remember_4 (by decide) ?_
  obtain ⟨ha, hb2⟩ := h
  refine lv_icmp_lt (tgt := 13) hx hb dX3_remember_6 (by decide) (fun hc => ?_) (fun hc => ?_)
  · replace h := ha hc
    exact b13 _ _ _ _ _ h (lv_sub hl [0] rfl) hR hS
  · replace h := hb2 hc
    refine lv_aload_n hx hb dX3_remember_9 rfl (lv_at hl 0 rfl) ?_
    obtain ⟨fs38, hm37, h⟩ := h
    refine k_callv0 (va_runV (As := []) (rest := []) ⟨hx, hb, hml, hown, hts⟩ (c_X3_forgetOldest l G _ _ _ p0 h) (cwV 0 hts gX3_remember_X3_forgetOldest rfl rfl rfl (by decide +kernel) ⟨Nat.le_of_ble_eq_true rfl, Nat.le_of_ble_eq_true rfl⟩) (k_preV (q := (RX3, TX3, 8)) hm37 rfl hR hS hA hE) rfl rfl hl.1 rfl (lv_room (Nat.le_of_ble_eq_true rfl)) dX3_remember_10 ⟨Nat.zero_le _, Nat.zero_le _⟩) hR hS hA (fun M36 H locs h hR hS => ?_)
    exact b13 _ _ _ _ _ h (lv_sub hl [0] rfl) hR hS

def wp_X3_fork (G : k_G) (post : Int32 → k_M → Prop) (p0 : Nat) (p1 : Int32) (M0 : k_M) : Prop :=
  (∃ fs1 v2, M0 p0 = some (kO 4 fs1) ∧ fs1[0]? = some (.ref v2) ∧
  (∃ fs8, M0 v2 = some (kO 3 fs8) ∧ wp_X2_isHelper G (fun r5 M6 =>
  ((¬ r5 = 0 →
  (∃ fs9 v10, M6 p0 = some (kO 4 fs9) ∧ fs9[0]? = some (.ref v10) ∧
    (∃ fs16, M6 v10 = some (kO 3 fs16) ∧ wp_X2_lowestFreeHelper G (fun r13 M14 =>
    ((¬ r13 = (-6 : Int32) →
    (∃ fs17 v18, M14 p0 = some (kO 4 fs17) ∧ fs17[0]? = some (.ref v18) ∧
      (∃ fs21 v22, M14 v18 = some (kO 3 fs21) ∧ fs21[0]? = some (.ref v22) ∧
      (∃ n25 f26, M14 v22 = some (kI G n25 f26) ∧ vp_in p1 n25 ∧
      wp_J6_bitCount_0f7a4 G (fun r29 M30 =>
      ((¬ r29 = (1 : Int32) →
      (∃ fs35, M30 p0 = some (kO 4 fs35) ∧ wp_X3_remember G (fun M33 =>
        (∃ fs36 v37, M33 p0 = some (kO 4 fs36) ∧ fs36[0]? = some (.ref v37) ∧
        (∃ fs43, M33 v37 = some (kO 3 fs43) ∧ wp_X2_split G (fun M41 =>
        post r13 M41) v37 p1 r13 M33))) p0 M30)) ∧
      (r29 = (1 : Int32) →
      post (-5 : Int32) M30))) (f26 (p1).toNatClampNeg) M14)))) ∧
    (r13 = (-6 : Int32) →
    post (-4 : Int32) M14))) v10 M6))) ∧
  (r5 = 0 →
  post (-1 : Int32) M6))) v2 p1 M0))
theorem in_X3_fork_X2 : ∀ w ∈ wsX20, w ∈ wsX3_fork := by decide +kernel
theorem in_X3_fork_X3 : ∀ w ∈ wsX30, w ∈ wsX3_fork := by decide +kernel
set_option maxHeartbeats 4000000 in
set_option maxRecDepth 100000 in
theorem c_X3_fork (l : Launch) (G : k_G) (M0 : k_M) (sz : Nat) (post : Int32 → k_M → Prop) (p0 : Nat) (p1 : Int32) (h : wp_X3_fork G post p0 p1 M0) : Met l yX3_fork wsX3_fork ({ frames := 4, cells := 0, slots := 0, locals := 103 }) (va_Pc [.ref p0, .int p1] (kPre G M0 sz)) (va_Qi post (kB G M0 sz) (kA M0 sz)) 0 0 (kA M0 sz) := by
  refine Met.ofW (cc := cX3_fork) (maxL := 3) (ret := (some .int)) (by decide) rfl ?_
  intro p e s m args below meth c s₁ B hml hv
  obtain ⟨rfl, hsz, hR, hE⟩ := hv
  have hx := B.exec
  have hb := B.bytes
  have hr := B.returns
  have hts := atoms_spec (ws := wsX3_fork) B.pre
  have hown : s.vm.findClass RX3 = some m.cls := findClass_of_methodNamed B.named
  have hlocks := B.notSynchronized
  subst hsz
  have hK := hE.1
  have hA : ∀ q, s.heap.size ≤ q → kA M0 s.heap.size q := kA.new
  have hS : va_S (kA M0 s.heap.size) s.heap s.heap [] := va_S.rf
  have hw1 := hts (.fieldLink RX3 10 "ForkedStamps" "now" "LForkedStamps$State;") (by decide +kernel)
  have hw2 := hts (.fieldLink RX3 48 "ForkedStamps$State" "shares" "[I") (by decide +kernel)
  have hl := lv_entry ([.ref p0, .int p1]) (n := 3) (Nat.le_of_ble_eq_true rfl)
  rw [lg_entry_eq]
  generalize (lg_sl ([.ref p0, .int p1]) ++ List.replicate (3 - (lg_sl ([.ref p0, .int p1])).length) Slot.unset).toArray = ls at hl ⊢
  have hl : lv_has ls 3 [(0, .ref p0), (1, .int p1)] := hl
  have hR0 := hR
  refine lv_aload_n hx hb dX3_fork_0 rfl (lv_at hl 0 rfl) ?_
  obtain ⟨fs1, v2, hm3, hv4, h⟩ := h
  refine k_get (ci := 4) (C := RX3) (T := TX3) (N := 8) hx hb hts in_X3_fork_X3 hown hK hR hm3 rfl 0 (by decide) hw1 (fun _ h9 => h9) hv4 dX3_fork_1 ?_
  refine lv_iload_n hx hb dX3_fork_4 rfl (lv_at hl 1 rfl) ?_
  obtain ⟨fs8, hm7, h⟩ := h
  refine k_calli0 (va_runV (As := [.int p1]) (rest := []) ⟨hx, hb, hml, hown, hts⟩ (c_X2_isHelper l G _ _ _ v2 p1 h) (cwV 1 hts gX3_fork_X2_isHelper rfl rfl rfl (by decide +kernel) ⟨Nat.le_of_ble_eq_true rfl, Nat.le_of_ble_eq_true rfl⟩) (k_preV (q := (RX2, TX2, 7)) hm7 rfl hR hS hA hE) rfl rfl hl.1 rfl (lv_room (Nat.le_of_ble_eq_true rfl)) dX3_fork_5 ⟨Nat.zero_le _, Nat.zero_le _⟩) hR hS hA (fun r5 M6 H locs h hR hS => ?_)
  obtain ⟨ha, hb2⟩ := h
  refine lv_if_ne (tgt := 13) hx hb dX3_fork_8 (by decide) (fun hc => ?_) (fun hc => ?_)
  · replace h := ha hc
    refine lv_aload_n hx hb dX3_fork_13 rfl (lv_at hl 0 rfl) ?_
    obtain ⟨fs9, v10, hm11, hv12, h⟩ := h
    refine k_get (ci := 4) (C := RX3) (T := TX3) (N := 8) hx hb hts in_X3_fork_X3 hown hK hR hm11 rfl 0 (by decide) hw1 (fun _ h9 => h9) hv12 dX3_fork_14 ?_
    obtain ⟨fs16, hm15, h⟩ := h
    refine k_calli0 (va_runV (As := []) (rest := []) ⟨hx, hb, hml, hown, hts⟩ (c_X2_lowestFreeHelper l G _ _ _ v10 h) (cwV 0 hts gX3_fork_X2_lowestFreeHelper rfl rfl rfl (by decide +kernel) ⟨Nat.le_of_ble_eq_true rfl, Nat.le_of_ble_eq_true rfl⟩) (k_preV (q := (RX2, TX2, 7)) hm15 rfl hR hS hA hE) rfl rfl hl.1 rfl (lv_room (Nat.le_of_ble_eq_true rfl)) dX3_fork_17 ⟨Nat.zero_le _, Nat.zero_le _⟩) hR hS hA (fun r13 M14 H locs h hR hS => ?_)
    refine lv_istore_n (lv' := [(2, .int r13), (0, .ref p0), (1, .int p1)]) hx hb dX3_fork_20 rfl hl (by decide) rfl (fun ls hl => ?_)
    refine lv_iload_n hx hb dX3_fork_21 rfl (lv_at hl 0 rfl) ?_
    refine lv_bipush (v := (-6 : Int32)) hx hb dX3_fork_22 (by decide) ?_
    obtain ⟨ha, hb2⟩ := h
    refine lv_icmp_ne (tgt := 30) hx hb dX3_fork_24 (by decide) (fun hc => ?_) (fun hc => ?_)
    · replace h := ha hc
      refine lv_aload_n hx hb dX3_fork_30 rfl (lv_at hl 1 rfl) ?_
      obtain ⟨fs17, v18, hm19, hv20, h⟩ := h
      refine k_get (ci := 4) (C := RX3) (T := TX3) (N := 8) hx hb hts in_X3_fork_X3 hown hK hR hm19 rfl 0 (by decide) hw1 (fun _ h9 => h9) hv20 dX3_fork_31 ?_
      obtain ⟨fs21, v22, hm23, hv24, h⟩ := h
      refine k_get (ci := 3) (C := RX2) (T := TX2) (N := 7) hx hb hts in_X3_fork_X2 hown hK hR hm23 rfl 0 (by decide) hw2 (fun _ h9 => h9) hv24 dX3_fork_34 ?_
      refine lv_iload_n hx hb dX3_fork_37 rfl (lv_at hl 2 rfl) ?_
      obtain ⟨n25, f26, hm27, hv28, h⟩ := h
      refine k_iald hx hb hK hR hm27 hv28 dX3_fork_38 ?_
      refine k_calli0 (va_runS (As := [.int (f26 (p1).toNatClampNeg)]) (rest := []) ⟨hx, hb, hml, hown, hts⟩ (c_J6_bitCount_0f7a4 l G _ _ _ (f26 (p1).toNatClampNeg) h) (va_cwS 1 hts gX3_fork_J6_bitCount_0f7a4 rfl rfl rfl (by decide +kernel) ⟨Nat.le_of_ble_eq_true rfl, Nat.le_of_ble_eq_true rfl⟩) (k_preS hR hS hA hE) rfl rfl hl.1 rfl (lv_room (Nat.le_of_ble_eq_true rfl)) dX3_fork_39 ⟨Nat.zero_le _, Nat.zero_le _⟩) hR hS hA (fun r29 M30 H locs h hR hS => ?_)
      refine lv_iconst (v := (1 : Int32)) hx hb dX3_fork_42 (by decide) ?_
      obtain ⟨ha, hb2⟩ := h
      refine lv_icmp_ne (tgt := 49) hx hb dX3_fork_43 (by decide) (fun hc => ?_) (fun hc => ?_)
      · replace h := ha hc
        refine lv_aload_n hx hb dX3_fork_49 rfl (lv_at hl 1 rfl) ?_
        obtain ⟨fs35, hm34, h⟩ := h
        refine k_callv0 (va_runV (As := []) (rest := []) ⟨hx, hb, hml, hown, hts⟩ (c_X3_remember l G _ _ _ p0 h) (cwV 0 hts gX3_fork_X3_remember rfl rfl rfl (by decide +kernel) ⟨Nat.le_of_ble_eq_true rfl, Nat.le_of_ble_eq_true rfl⟩) (k_preV (q := (RX3, TX3, 8)) hm34 rfl hR hS hA hE) rfl rfl hl.1 rfl (lv_room (Nat.le_of_ble_eq_true rfl)) dX3_fork_50 ⟨Nat.zero_le _, Nat.zero_le _⟩) hR hS hA (fun M33 H locs h hR hS => ?_)
        refine lv_aload_n hx hb dX3_fork_53 rfl (lv_at hl 1 rfl) ?_
        obtain ⟨fs36, v37, hm38, hv39, h⟩ := h
        refine k_get (ci := 4) (C := RX3) (T := TX3) (N := 8) hx hb hts in_X3_fork_X3 hown hK hR hm38 rfl 0 (by decide) hw1 (fun _ h9 => h9) hv39 dX3_fork_54 ?_
        refine lv_iload_n hx hb dX3_fork_57 rfl (lv_at hl 2 rfl) ?_
        refine lv_iload_n hx hb dX3_fork_58 rfl (lv_at hl 0 rfl) ?_
        obtain ⟨fs43, hm42, h⟩ := h
        refine k_callv0 (va_runV (As := [.int p1, .int r13]) (rest := []) ⟨hx, hb, hml, hown, hts⟩ (c_X2_split l G _ _ _ v37 p1 r13 h) (cwV 2 hts gX3_fork_X2_split rfl rfl rfl (by decide +kernel) ⟨Nat.le_of_ble_eq_true rfl, Nat.le_of_ble_eq_true rfl⟩) (k_preV (q := (RX2, TX2, 7)) hm42 rfl hR hS hA hE) rfl rfl hl.1 rfl (lv_room (Nat.le_of_ble_eq_true rfl)) dX3_fork_59 ⟨Nat.zero_le _, Nat.zero_le _⟩) hR hS hA (fun M41 H locs h hR hS => ?_)
        refine lv_iload_n hx hb dX3_fork_62 rfl (lv_at hl 0 rfl) ?_
        exact k_reti hx hb hr hlocks rfl hR hS h dX3_fork_63
      · replace h := hb2 hc
        refine lv_bipush (v := (-5 : Int32)) hx hb dX3_fork_46 (by decide) ?_
        exact k_reti hx hb hr hlocks rfl hR hS h dX3_fork_48
    · replace h := hb2 hc
      refine lv_bipush (v := (-4 : Int32)) hx hb dX3_fork_27 (by decide) ?_
      exact k_reti hx hb hr hlocks rfl hR hS h dX3_fork_29
  · replace h := hb2 hc
    refine lv_iconst (v := (-1 : Int32)) hx hb dX3_fork_11 (by decide) ?_
    exact k_reti hx hb hr hlocks rfl hR hS h dX3_fork_12

def wp_X3_gather (G : k_G) (post : Int32 → k_M → Prop) (p0 : Nat) (p1 : Int32) (p2 : Int32) (M0 : k_M) : Prop :=
  (∃ fs1 v2, M0 p0 = some (kO 4 fs1) ∧ fs1[0]? = some (.ref v2) ∧
  (∃ fs8, M0 v2 = some (kO 3 fs8) ∧ wp_X2_isHelper G (fun r5 M6 =>
  ((r5 = 0 →
  post (-1 : Int32) M6) ∧
  (¬ r5 = 0 →
  (∃ fs9 v10, M6 p0 = some (kO 4 fs9) ∧ fs9[0]? = some (.ref v10) ∧
    (∃ fs16, M6 v10 = some (kO 3 fs16) ∧ wp_X2_isHelper G (fun r13 M14 =>
    ((¬ r13 = 0 →
    ((¬ p1 = p2 →
      (∃ fs20, M14 p0 = some (kO 4 fs20) ∧ wp_X3_remember G (fun M18 =>
        (∃ fs21 v22, M18 p0 = some (kO 4 fs21) ∧ fs21[0]? = some (.ref v22) ∧
        (∃ fs28, M18 v22 = some (kO 3 fs28) ∧ wp_X2_merge G (fun M26 =>
        (∃ fs29 v30, M26 p0 = some (kO 4 fs29) ∧ fs29[0]? = some (.ref v30) ∧
        (∃ fs33 v34, M26 v30 = some (kO 3 fs33) ∧ fs33[0]? = some (.ref v34) ∧
        (∃ n37 f38, M26 v34 = some (kI G n37 f38) ∧ vp_in p2 n37 ∧
        wp_J6_bitCount_0f7a4 G (fun r41 M42 =>
        post r41 M42) (f38 (p2).toNatClampNeg) M26)))) v22 p1 p2 M18))) p0 M14)) ∧
      (p1 = p2 →
      post (-2 : Int32) M14))) ∧
    (r13 = 0 →
    post (-1 : Int32) M14))) v10 p2 M6))))) v2 p1 M0))
theorem in_X3_gather_X2 : ∀ w ∈ wsX20, w ∈ wsX3_gather := by decide +kernel
theorem in_X3_gather_X3 : ∀ w ∈ wsX30, w ∈ wsX3_gather := by decide +kernel
set_option maxHeartbeats 4000000 in
set_option maxRecDepth 100000 in
theorem c_X3_gather (l : Launch) (G : k_G) (M0 : k_M) (sz : Nat) (post : Int32 → k_M → Prop) (p0 : Nat) (p1 : Int32) (p2 : Int32) (h : wp_X3_gather G post p0 p1 p2 M0) : Met l yX3_gather wsX3_gather ({ frames := 4, cells := 0, slots := 0, locals := 103 }) (va_Pc [.ref p0, .int p1, .int p2] (kPre G M0 sz)) (va_Qi post (kB G M0 sz) (kA M0 sz)) 0 0 (kA M0 sz) := by
  refine Met.ofW (cc := cX3_gather) (maxL := 3) (ret := (some .int)) (by decide) rfl ?_
  intro p e s m args below meth c s₁ B hml hv
  obtain ⟨rfl, hsz, hR, hE⟩ := hv
  have hx := B.exec
  have hb := B.bytes
  have hr := B.returns
  have hts := atoms_spec (ws := wsX3_gather) B.pre
  have hown : s.vm.findClass RX3 = some m.cls := findClass_of_methodNamed B.named
  have hlocks := B.notSynchronized
  subst hsz
  have hK := hE.1
  have hA : ∀ q, s.heap.size ≤ q → kA M0 s.heap.size q := kA.new
  have hS : va_S (kA M0 s.heap.size) s.heap s.heap [] := va_S.rf
  have hw1 := hts (.fieldLink RX3 10 "ForkedStamps" "now" "LForkedStamps$State;") (by decide +kernel)
  have hw2 := hts (.fieldLink RX3 48 "ForkedStamps$State" "shares" "[I") (by decide +kernel)
  have hl := lv_entry ([.ref p0, .int p1, .int p2]) (n := 3) (Nat.le_of_ble_eq_true rfl)
  rw [lg_entry_eq]
  generalize (lg_sl ([.ref p0, .int p1, .int p2]) ++ List.replicate (3 - (lg_sl ([.ref p0, .int p1, .int p2])).length) Slot.unset).toArray = ls at hl ⊢
  have hl : lv_has ls 3 [(0, .ref p0), (1, .int p1), (2, .int p2)] := hl
  have hR0 := hR
  refine lv_aload_n hx hb dX3_gather_0 rfl (lv_at hl 0 rfl) ?_
  obtain ⟨fs1, v2, hm3, hv4, h⟩ := h
  refine k_get (ci := 4) (C := RX3) (T := TX3) (N := 8) hx hb hts in_X3_gather_X3 hown hK hR hm3 rfl 0 (by decide) hw1 (fun _ h9 => h9) hv4 dX3_gather_1 ?_
  refine lv_iload_n hx hb dX3_gather_4 rfl (lv_at hl 1 rfl) ?_
  obtain ⟨fs8, hm7, h⟩ := h
  refine k_calli0 (va_runV (As := [.int p1]) (rest := []) ⟨hx, hb, hml, hown, hts⟩ (c_X2_isHelper l G _ _ _ v2 p1 h) (cwV 1 hts gX3_gather_X2_isHelper rfl rfl rfl (by decide +kernel) ⟨Nat.le_of_ble_eq_true rfl, Nat.le_of_ble_eq_true rfl⟩) (k_preV (q := (RX2, TX2, 7)) hm7 rfl hR hS hA hE) rfl rfl hl.1 rfl (lv_room (Nat.le_of_ble_eq_true rfl)) dX3_gather_5 ⟨Nat.zero_le _, Nat.zero_le _⟩) hR hS hA (fun r5 M6 H locs h hR hS => ?_)
  obtain ⟨ha, hb2⟩ := h
  refine lv_if_eq (tgt := 22) hx hb dX3_gather_8 (by decide) (fun hc => ?_) (fun hc => ?_)
  · replace h := ha hc
    refine lv_iconst (v := (-1 : Int32)) hx hb dX3_gather_22 (by decide) ?_
    exact k_reti hx hb hr hlocks rfl hR hS h dX3_gather_23
  · replace h := hb2 hc
    refine lv_aload_n hx hb dX3_gather_11 rfl (lv_at hl 0 rfl) ?_
    obtain ⟨fs9, v10, hm11, hv12, h⟩ := h
    refine k_get (ci := 4) (C := RX3) (T := TX3) (N := 8) hx hb hts in_X3_gather_X3 hown hK hR hm11 rfl 0 (by decide) hw1 (fun _ h9 => h9) hv12 dX3_gather_12 ?_
    refine lv_iload_n hx hb dX3_gather_15 rfl (lv_at hl 2 rfl) ?_
    obtain ⟨fs16, hm15, h⟩ := h
    refine k_calli0 (va_runV (As := [.int p2]) (rest := []) ⟨hx, hb, hml, hown, hts⟩ (c_X2_isHelper l G _ _ _ v10 p2 h) (cwV 1 hts gX3_gather_X2_isHelper rfl rfl rfl (by decide +kernel) ⟨Nat.le_of_ble_eq_true rfl, Nat.le_of_ble_eq_true rfl⟩) (k_preV (q := (RX2, TX2, 7)) hm15 rfl hR hS hA hE) rfl rfl hl.1 rfl (lv_room (Nat.le_of_ble_eq_true rfl)) dX3_gather_16 ⟨Nat.zero_le _, Nat.zero_le _⟩) hR hS hA (fun r13 M14 H locs h hR hS => ?_)
    obtain ⟨ha, hb2⟩ := h
    refine lv_if_ne (tgt := 24) hx hb dX3_gather_19 (by decide) (fun hc => ?_) (fun hc => ?_)
    · replace h := ha hc
      refine lv_iload_n hx hb dX3_gather_24 rfl (lv_at hl 1 rfl) ?_
      refine lv_iload_n hx hb dX3_gather_25 rfl (lv_at hl 2 rfl) ?_
      obtain ⟨ha, hb2⟩ := h
      refine lv_icmp_ne (tgt := 32) hx hb dX3_gather_26 (by decide) (fun hc => ?_) (fun hc => ?_)
      · replace h := ha hc
        refine lv_aload_n hx hb dX3_gather_32 rfl (lv_at hl 0 rfl) ?_
        obtain ⟨fs20, hm19, h⟩ := h
        refine k_callv0 (va_runV (As := []) (rest := []) ⟨hx, hb, hml, hown, hts⟩ (c_X3_remember l G _ _ _ p0 h) (cwV 0 hts gX3_gather_X3_remember rfl rfl rfl (by decide +kernel) ⟨Nat.le_of_ble_eq_true rfl, Nat.le_of_ble_eq_true rfl⟩) (k_preV (q := (RX3, TX3, 8)) hm19 rfl hR hS hA hE) rfl rfl hl.1 rfl (lv_room (Nat.le_of_ble_eq_true rfl)) dX3_gather_33 ⟨Nat.zero_le _, Nat.zero_le _⟩) hR hS hA (fun M18 H locs h hR hS => ?_)
        refine lv_aload_n hx hb dX3_gather_36 rfl (lv_at hl 0 rfl) ?_
        obtain ⟨fs21, v22, hm23, hv24, h⟩ := h
        refine k_get (ci := 4) (C := RX3) (T := TX3) (N := 8) hx hb hts in_X3_gather_X3 hown hK hR hm23 rfl 0 (by decide) hw1 (fun _ h9 => h9) hv24 dX3_gather_37 ?_
        refine lv_iload_n hx hb dX3_gather_40 rfl (lv_at hl 1 rfl) ?_
        refine lv_iload_n hx hb dX3_gather_41 rfl (lv_at hl 2 rfl) ?_
        obtain ⟨fs28, hm27, h⟩ := h
        refine k_callv0 (va_runV (As := [.int p1, .int p2]) (rest := []) ⟨hx, hb, hml, hown, hts⟩ (c_X2_merge l G _ _ _ v22 p1 p2 h) (cwV 2 hts gX3_gather_X2_merge rfl rfl rfl (by decide +kernel) ⟨Nat.le_of_ble_eq_true rfl, Nat.le_of_ble_eq_true rfl⟩) (k_preV (q := (RX2, TX2, 7)) hm27 rfl hR hS hA hE) rfl rfl hl.1 rfl (lv_room (Nat.le_of_ble_eq_true rfl)) dX3_gather_42 ⟨Nat.zero_le _, Nat.zero_le _⟩) hR hS hA (fun M26 H locs h hR hS => ?_)
        refine lv_aload_n hx hb dX3_gather_45 rfl (lv_at hl 0 rfl) ?_
        obtain ⟨fs29, v30, hm31, hv32, h⟩ := h
        refine k_get (ci := 4) (C := RX3) (T := TX3) (N := 8) hx hb hts in_X3_gather_X3 hown hK hR hm31 rfl 0 (by decide) hw1 (fun _ h9 => h9) hv32 dX3_gather_46 ?_
        obtain ⟨fs33, v34, hm35, hv36, h⟩ := h
        refine k_get (ci := 3) (C := RX2) (T := TX2) (N := 7) hx hb hts in_X3_gather_X2 hown hK hR hm35 rfl 0 (by decide) hw2 (fun _ h9 => h9) hv36 dX3_gather_49 ?_
        refine lv_iload_n hx hb dX3_gather_52 rfl (lv_at hl 2 rfl) ?_
        obtain ⟨n37, f38, hm39, hv40, h⟩ := h
        refine k_iald hx hb hK hR hm39 hv40 dX3_gather_53 ?_
        refine k_calli0 (va_runS (As := [.int (f38 (p2).toNatClampNeg)]) (rest := []) ⟨hx, hb, hml, hown, hts⟩ (c_J6_bitCount_0f7a4 l G _ _ _ (f38 (p2).toNatClampNeg) h) (va_cwS 1 hts gX3_gather_J6_bitCount_0f7a4 rfl rfl rfl (by decide +kernel) ⟨Nat.le_of_ble_eq_true rfl, Nat.le_of_ble_eq_true rfl⟩) (k_preS hR hS hA hE) rfl rfl hl.1 rfl (lv_room (Nat.le_of_ble_eq_true rfl)) dX3_gather_54 ⟨Nat.zero_le _, Nat.zero_le _⟩) hR hS hA (fun r41 M42 H locs h hR hS => ?_)
        exact k_reti hx hb hr hlocks rfl hR hS h dX3_gather_57
      · replace h := hb2 hc
        refine lv_bipush (v := (-2 : Int32)) hx hb dX3_gather_29 (by decide) ?_
        exact k_reti hx hb hr hlocks rfl hR hS h dX3_gather_31
    · replace h := hb2 hc
      refine lv_iconst (v := (-1 : Int32)) hx hb dX3_gather_22 (by decide) ?_
      exact k_reti hx hb hr hlocks rfl hR hS h dX3_gather_23

def wp_X3_event (G : k_G) (post : Int32 → k_M → Prop) (p0 : Nat) (p1 : Int32) (M0 : k_M) : Prop :=
  (∃ fs1 v2, M0 p0 = some (kO 4 fs1) ∧ fs1[0]? = some (.ref v2) ∧
  (∃ fs8, M0 v2 = some (kO 3 fs8) ∧ wp_X2_isHelper G (fun r5 M6 =>
  ((¬ r5 = 0 →
  (∃ fs9 v10, M6 p0 = some (kO 4 fs9) ∧ fs9[0]? = some (.ref v10) ∧
    (∃ fs13 v14, M6 v10 = some (kO 3 fs13) ∧ fs13[6]? = some (.int v14) ∧
    ((v14 < (120 : Int32) →
    (∃ fs20, M6 p0 = some (kO 4 fs20) ∧ wp_X3_remember G (fun M18 =>
      (∃ fs21 v22, M18 p0 = some (kO 4 fs21) ∧ fs21[0]? = some (.ref v22) ∧
      (∃ fs28, M18 v22 = some (kO 3 fs28) ∧ wp_X2_addEvent G (fun r25 M26 =>
      post r25 M26) v22 p1 M18))) p0 M6)) ∧
    (¬ v14 < (120 : Int32) →
    post (-4 : Int32) M6))))) ∧
  (r5 = 0 →
  post (-1 : Int32) M6))) v2 p1 M0))
theorem in_X3_event_X2 : ∀ w ∈ wsX20, w ∈ wsX3_event := by decide +kernel
theorem in_X3_event_X3 : ∀ w ∈ wsX30, w ∈ wsX3_event := by decide +kernel
set_option maxHeartbeats 4000000 in
set_option maxRecDepth 100000 in
theorem c_X3_event (l : Launch) (G : k_G) (M0 : k_M) (sz : Nat) (post : Int32 → k_M → Prop) (p0 : Nat) (p1 : Int32) (h : wp_X3_event G post p0 p1 M0) : Met l yX3_event wsX3_event ({ frames := 4, cells := 0, slots := 0, locals := 103 }) (va_Pc [.ref p0, .int p1] (kPre G M0 sz)) (va_Qi post (kB G M0 sz) (kA M0 sz)) 0 0 (kA M0 sz) := by
  refine Met.ofW (cc := cX3_event) (maxL := 2) (ret := (some .int)) (by decide) rfl ?_
  intro p e s m args below meth c s₁ B hml hv
  obtain ⟨rfl, hsz, hR, hE⟩ := hv
  have hx := B.exec
  have hb := B.bytes
  have hr := B.returns
  have hts := atoms_spec (ws := wsX3_event) B.pre
  have hown : s.vm.findClass RX3 = some m.cls := findClass_of_methodNamed B.named
  have hlocks := B.notSynchronized
  subst hsz
  have hK := hE.1
  have hA : ∀ q, s.heap.size ≤ q → kA M0 s.heap.size q := kA.new
  have hS : va_S (kA M0 s.heap.size) s.heap s.heap [] := va_S.rf
  have hw1 := hts (.fieldLink RX3 10 "ForkedStamps" "now" "LForkedStamps$State;") (by decide +kernel)
  have hw2 := hts (.fieldLink RX3 77 "ForkedStamps$State" "eventCount" "I") (by decide +kernel)
  have hl := lv_entry ([.ref p0, .int p1]) (n := 2) (Nat.le_of_ble_eq_true rfl)
  rw [lg_entry_eq]
  generalize (lg_sl ([.ref p0, .int p1]) ++ List.replicate (2 - (lg_sl ([.ref p0, .int p1])).length) Slot.unset).toArray = ls at hl ⊢
  have hl : lv_has ls 2 [(0, .ref p0), (1, .int p1)] := hl
  have hR0 := hR
  refine lv_aload_n hx hb dX3_event_0 rfl (lv_at hl 0 rfl) ?_
  obtain ⟨fs1, v2, hm3, hv4, h⟩ := h
  refine k_get (ci := 4) (C := RX3) (T := TX3) (N := 8) hx hb hts in_X3_event_X3 hown hK hR hm3 rfl 0 (by decide) hw1 (fun _ h9 => h9) hv4 dX3_event_1 ?_
  refine lv_iload_n hx hb dX3_event_4 rfl (lv_at hl 1 rfl) ?_
  obtain ⟨fs8, hm7, h⟩ := h
  refine k_calli0 (va_runV (As := [.int p1]) (rest := []) ⟨hx, hb, hml, hown, hts⟩ (c_X2_isHelper l G _ _ _ v2 p1 h) (cwV 1 hts gX3_event_X2_isHelper rfl rfl rfl (by decide +kernel) ⟨Nat.le_of_ble_eq_true rfl, Nat.le_of_ble_eq_true rfl⟩) (k_preV (q := (RX2, TX2, 7)) hm7 rfl hR hS hA hE) rfl rfl hl.1 rfl (lv_room (Nat.le_of_ble_eq_true rfl)) dX3_event_5 ⟨Nat.zero_le _, Nat.zero_le _⟩) hR hS hA (fun r5 M6 H locs h hR hS => ?_)
  obtain ⟨ha, hb2⟩ := h
  refine lv_if_ne (tgt := 13) hx hb dX3_event_8 (by decide) (fun hc => ?_) (fun hc => ?_)
  · replace h := ha hc
    refine lv_aload_n hx hb dX3_event_13 rfl (lv_at hl 0 rfl) ?_
    obtain ⟨fs9, v10, hm11, hv12, h⟩ := h
    refine k_get (ci := 4) (C := RX3) (T := TX3) (N := 8) hx hb hts in_X3_event_X3 hown hK hR hm11 rfl 0 (by decide) hw1 (fun _ h9 => h9) hv12 dX3_event_14 ?_
    obtain ⟨fs13, v14, hm15, hv16, h⟩ := h
    refine k_get (ci := 3) (C := RX2) (T := TX2) (N := 7) hx hb hts in_X3_event_X2 hown hK hR hm15 rfl 6 (by decide) hw2 (fun _ h9 => h9) hv16 dX3_event_17 ?_
    refine lv_bipush (v := (120 : Int32)) hx hb dX3_event_20 (by decide) ?_
    obtain ⟨ha, hb2⟩ := h
    refine lv_icmp_lt (tgt := 28) hx hb dX3_event_22 (by decide) (fun hc => ?_) (fun hc => ?_)
    · replace h := ha hc
      refine lv_aload_n hx hb dX3_event_28 rfl (lv_at hl 0 rfl) ?_
      obtain ⟨fs20, hm19, h⟩ := h
      refine k_callv0 (va_runV (As := []) (rest := []) ⟨hx, hb, hml, hown, hts⟩ (c_X3_remember l G _ _ _ p0 h) (cwV 0 hts gX3_event_X3_remember rfl rfl rfl (by decide +kernel) ⟨Nat.le_of_ble_eq_true rfl, Nat.le_of_ble_eq_true rfl⟩) (k_preV (q := (RX3, TX3, 8)) hm19 rfl hR hS hA hE) rfl rfl hl.1 rfl (lv_room (Nat.le_of_ble_eq_true rfl)) dX3_event_29 ⟨Nat.zero_le _, Nat.zero_le _⟩) hR hS hA (fun M18 H locs h hR hS => ?_)
      refine lv_aload_n hx hb dX3_event_32 rfl (lv_at hl 0 rfl) ?_
      obtain ⟨fs21, v22, hm23, hv24, h⟩ := h
      refine k_get (ci := 4) (C := RX3) (T := TX3) (N := 8) hx hb hts in_X3_event_X3 hown hK hR hm23 rfl 0 (by decide) hw1 (fun _ h9 => h9) hv24 dX3_event_33 ?_
      refine lv_iload_n hx hb dX3_event_36 rfl (lv_at hl 1 rfl) ?_
      obtain ⟨fs28, hm27, h⟩ := h
      refine k_calli0 (va_runV (As := [.int p1]) (rest := []) ⟨hx, hb, hml, hown, hts⟩ (c_X2_addEvent l G _ _ _ v22 p1 h) (cwV 1 hts gX3_event_X2_addEvent rfl rfl rfl (by decide +kernel) ⟨Nat.le_of_ble_eq_true rfl, Nat.le_of_ble_eq_true rfl⟩) (k_preV (q := (RX2, TX2, 7)) hm27 rfl hR hS hA hE) rfl rfl hl.1 rfl (lv_room (Nat.le_of_ble_eq_true rfl)) dX3_event_37 ⟨Nat.zero_le _, Nat.zero_le _⟩) hR hS hA (fun r25 M26 H locs h hR hS => ?_)
      exact k_reti hx hb hr hlocks rfl hR hS h dX3_event_40
    · replace h := hb2 hc
      refine lv_bipush (v := (-4 : Int32)) hx hb dX3_event_25 (by decide) ?_
      exact k_reti hx hb hr hlocks rfl hR hS h dX3_event_27
  · replace h := hb2 hc
    refine lv_iconst (v := (-1 : Int32)) hx hb dX3_event_11 (by decide) ?_
    exact k_reti hx hb hr hlocks rfl hR hS h dX3_event_12

def wp_X3_send (G : k_G) (post : Int32 → k_M → Prop) (p0 : Nat) (p1 : Int32) (M0 : k_M) : Prop :=
  (∃ fs1 v2, M0 p0 = some (kO 4 fs1) ∧ fs1[0]? = some (.ref v2) ∧
  (∃ fs8, M0 v2 = some (kO 3 fs8) ∧ wp_X2_isHelper G (fun r5 M6 =>
  ((¬ r5 = 0 →
  (∃ fs9 v10, M6 p0 = some (kO 4 fs9) ∧ fs9[0]? = some (.ref v10) ∧
    (∃ fs13 v14, M6 v10 = some (kO 3 fs13) ∧ fs13[4]? = some (.int v14) ∧
    ((v14 < (8 : Int32) →
    (∃ fs20, M6 p0 = some (kO 4 fs20) ∧ wp_X3_remember G (fun M18 =>
      (∃ fs21 v22, M18 p0 = some (kO 4 fs21) ∧ fs21[0]? = some (.ref v22) ∧
      (∃ fs28, M18 v22 = some (kO 3 fs28) ∧ wp_X2_addMessage G (fun r25 M26 =>
      post r25 M26) v22 p1 M18))) p0 M6)) ∧
    (¬ v14 < (8 : Int32) →
    post (-4 : Int32) M6))))) ∧
  (r5 = 0 →
  post (-1 : Int32) M6))) v2 p1 M0))
theorem in_X3_send_X2 : ∀ w ∈ wsX20, w ∈ wsX3_send := by decide +kernel
theorem in_X3_send_X3 : ∀ w ∈ wsX30, w ∈ wsX3_send := by decide +kernel
set_option maxHeartbeats 4000000 in
set_option maxRecDepth 100000 in
theorem c_X3_send (l : Launch) (G : k_G) (M0 : k_M) (sz : Nat) (post : Int32 → k_M → Prop) (p0 : Nat) (p1 : Int32) (h : wp_X3_send G post p0 p1 M0) : Met l yX3_send wsX3_send ({ frames := 4, cells := 0, slots := 0, locals := 103 }) (va_Pc [.ref p0, .int p1] (kPre G M0 sz)) (va_Qi post (kB G M0 sz) (kA M0 sz)) 0 0 (kA M0 sz) := by
  refine Met.ofW (cc := cX3_send) (maxL := 2) (ret := (some .int)) (by decide) rfl ?_
  intro p e s m args below meth c s₁ B hml hv
  obtain ⟨rfl, hsz, hR, hE⟩ := hv
  have hx := B.exec
  have hb := B.bytes
  have hr := B.returns
  have hts := atoms_spec (ws := wsX3_send) B.pre
  have hown : s.vm.findClass RX3 = some m.cls := findClass_of_methodNamed B.named
  have hlocks := B.notSynchronized
  subst hsz
  have hK := hE.1
  have hA : ∀ q, s.heap.size ≤ q → kA M0 s.heap.size q := kA.new
  have hS : va_S (kA M0 s.heap.size) s.heap s.heap [] := va_S.rf
  have hw1 := hts (.fieldLink RX3 10 "ForkedStamps" "now" "LForkedStamps$State;") (by decide +kernel)
  have hw2 := hts (.fieldLink RX3 84 "ForkedStamps$State" "messageCount" "I") (by decide +kernel)
  have hl := lv_entry ([.ref p0, .int p1]) (n := 2) (Nat.le_of_ble_eq_true rfl)
  rw [lg_entry_eq]
  generalize (lg_sl ([.ref p0, .int p1]) ++ List.replicate (2 - (lg_sl ([.ref p0, .int p1])).length) Slot.unset).toArray = ls at hl ⊢
  have hl : lv_has ls 2 [(0, .ref p0), (1, .int p1)] := hl
  have hR0 := hR
  refine lv_aload_n hx hb dX3_send_0 rfl (lv_at hl 0 rfl) ?_
  obtain ⟨fs1, v2, hm3, hv4, h⟩ := h
  refine k_get (ci := 4) (C := RX3) (T := TX3) (N := 8) hx hb hts in_X3_send_X3 hown hK hR hm3 rfl 0 (by decide) hw1 (fun _ h9 => h9) hv4 dX3_send_1 ?_
  refine lv_iload_n hx hb dX3_send_4 rfl (lv_at hl 1 rfl) ?_
  obtain ⟨fs8, hm7, h⟩ := h
  refine k_calli0 (va_runV (As := [.int p1]) (rest := []) ⟨hx, hb, hml, hown, hts⟩ (c_X2_isHelper l G _ _ _ v2 p1 h) (cwV 1 hts gX3_send_X2_isHelper rfl rfl rfl (by decide +kernel) ⟨Nat.le_of_ble_eq_true rfl, Nat.le_of_ble_eq_true rfl⟩) (k_preV (q := (RX2, TX2, 7)) hm7 rfl hR hS hA hE) rfl rfl hl.1 rfl (lv_room (Nat.le_of_ble_eq_true rfl)) dX3_send_5 ⟨Nat.zero_le _, Nat.zero_le _⟩) hR hS hA (fun r5 M6 H locs h hR hS => ?_)
  obtain ⟨ha, hb2⟩ := h
  refine lv_if_ne (tgt := 13) hx hb dX3_send_8 (by decide) (fun hc => ?_) (fun hc => ?_)
  · replace h := ha hc
    refine lv_aload_n hx hb dX3_send_13 rfl (lv_at hl 0 rfl) ?_
    obtain ⟨fs9, v10, hm11, hv12, h⟩ := h
    refine k_get (ci := 4) (C := RX3) (T := TX3) (N := 8) hx hb hts in_X3_send_X3 hown hK hR hm11 rfl 0 (by decide) hw1 (fun _ h9 => h9) hv12 dX3_send_14 ?_
    obtain ⟨fs13, v14, hm15, hv16, h⟩ := h
    refine k_get (ci := 3) (C := RX2) (T := TX2) (N := 7) hx hb hts in_X3_send_X2 hown hK hR hm15 rfl 4 (by decide) hw2 (fun _ h9 => h9) hv16 dX3_send_17 ?_
    refine lv_bipush (v := (8 : Int32)) hx hb dX3_send_20 (by decide) ?_
    obtain ⟨ha, hb2⟩ := h
    refine lv_icmp_lt (tgt := 28) hx hb dX3_send_22 (by decide) (fun hc => ?_) (fun hc => ?_)
    · replace h := ha hc
      refine lv_aload_n hx hb dX3_send_28 rfl (lv_at hl 0 rfl) ?_
      obtain ⟨fs20, hm19, h⟩ := h
      refine k_callv0 (va_runV (As := []) (rest := []) ⟨hx, hb, hml, hown, hts⟩ (c_X3_remember l G _ _ _ p0 h) (cwV 0 hts gX3_send_X3_remember rfl rfl rfl (by decide +kernel) ⟨Nat.le_of_ble_eq_true rfl, Nat.le_of_ble_eq_true rfl⟩) (k_preV (q := (RX3, TX3, 8)) hm19 rfl hR hS hA hE) rfl rfl hl.1 rfl (lv_room (Nat.le_of_ble_eq_true rfl)) dX3_send_29 ⟨Nat.zero_le _, Nat.zero_le _⟩) hR hS hA (fun M18 H locs h hR hS => ?_)
      refine lv_aload_n hx hb dX3_send_32 rfl (lv_at hl 0 rfl) ?_
      obtain ⟨fs21, v22, hm23, hv24, h⟩ := h
      refine k_get (ci := 4) (C := RX3) (T := TX3) (N := 8) hx hb hts in_X3_send_X3 hown hK hR hm23 rfl 0 (by decide) hw1 (fun _ h9 => h9) hv24 dX3_send_33 ?_
      refine lv_iload_n hx hb dX3_send_36 rfl (lv_at hl 1 rfl) ?_
      obtain ⟨fs28, hm27, h⟩ := h
      refine k_calli0 (va_runV (As := [.int p1]) (rest := []) ⟨hx, hb, hml, hown, hts⟩ (c_X2_addMessage l G _ _ _ v22 p1 h) (cwV 1 hts gX3_send_X2_addMessage rfl rfl rfl (by decide +kernel) ⟨Nat.le_of_ble_eq_true rfl, Nat.le_of_ble_eq_true rfl⟩) (k_preV (q := (RX2, TX2, 7)) hm27 rfl hR hS hA hE) rfl rfl hl.1 rfl (lv_room (Nat.le_of_ble_eq_true rfl)) dX3_send_37 ⟨Nat.zero_le _, Nat.zero_le _⟩) hR hS hA (fun r25 M26 H locs h hR hS => ?_)
      exact k_reti hx hb hr hlocks rfl hR hS h dX3_send_40
    · replace h := hb2 hc
      refine lv_bipush (v := (-4 : Int32)) hx hb dX3_send_25 (by decide) ?_
      exact k_reti hx hb hr hlocks rfl hR hS h dX3_send_27
  · replace h := hb2 hc
    refine lv_iconst (v := (-1 : Int32)) hx hb dX3_send_11 (by decide) ?_
    exact k_reti hx hb hr hlocks rfl hR hS h dX3_send_12

def wp_X3_receive (G : k_G) (post : Int32 → k_M → Prop) (p0 : Nat) (p1 : Int32) (p2 : Int32) (M0 : k_M) : Prop :=
  (∃ fs1 v2, M0 p0 = some (kO 4 fs1) ∧ fs1[0]? = some (.ref v2) ∧
  (∃ fs8, M0 v2 = some (kO 3 fs8) ∧ wp_X2_isHelper G (fun r5 M6 =>
  ((r5 = 0 →
  post (-1 : Int32) M6) ∧
  (¬ r5 = 0 →
  (∃ fs9 v10, M6 p0 = some (kO 4 fs9) ∧ fs9[0]? = some (.ref v10) ∧
    (∃ fs16, M6 v10 = some (kO 3 fs16) ∧ wp_X2_isMessage G (fun r13 M14 =>
    ((¬ r13 = 0 →
    (∃ fs17 v18, M14 p0 = some (kO 4 fs17) ∧ fs17[0]? = some (.ref v18) ∧
      (∃ fs21 v22, M14 v18 = some (kO 3 fs21) ∧ fs21[6]? = some (.int v22) ∧
      ((v22 < (120 : Int32) →
      (∃ fs28, M14 p0 = some (kO 4 fs28) ∧ wp_X3_remember G (fun M26 =>
        (∃ fs29 v30, M26 p0 = some (kO 4 fs29) ∧ fs29[0]? = some (.ref v30) ∧
        (∃ fs33 v34, M26 v30 = some (kO 3 fs33) ∧ fs33[1]? = some (.ref v34) ∧
        (∃ n37 f38 v39, M26 v34 = some (kO1 G n37 f38) ∧ vp_in p1 n37 ∧ f38 (p1).toNatClampNeg = some v39 ∧
        (∃ fs43 v44, M26 p0 = some (kO 4 fs43) ∧ fs43[0]? = some (.ref v44) ∧
        (∃ fs47 v48, M26 v44 = some (kO 3 fs47) ∧ fs47[2]? = some (.ref v48) ∧
        (∃ n51 f52 v53, M26 v48 = some (kO1 G n51 f52) ∧ vp_in p2 n51 ∧ f52 (p2).toNatClampNeg = some v53 ∧
        (∃ fs60, M26 v39 = some (kO 2 fs60) ∧ wp_X1_takeOver G (fun M58 =>
        (∃ fs61 v62, M58 p0 = some (kO 4 fs61) ∧ fs61[0]? = some (.ref v62) ∧
        (∃ fs68, M58 v62 = some (kO 3 fs68) ∧ wp_X2_addEvent G (fun r65 M66 =>
        post r65 M66) v62 p1 M58))) v39 v53 M26)))))))) p0 M14)) ∧
      (¬ v22 < (120 : Int32) →
      post (-4 : Int32) M14))))) ∧
    (r13 = 0 →
    post (-1 : Int32) M14))) v10 p2 M6))))) v2 p1 M0))
theorem in_X3_receive_X2 : ∀ w ∈ wsX20, w ∈ wsX3_receive := by decide +kernel
theorem in_X3_receive_X3 : ∀ w ∈ wsX30, w ∈ wsX3_receive := by decide +kernel
set_option maxHeartbeats 4000000 in
set_option maxRecDepth 100000 in
theorem c_X3_receive (l : Launch) (G : k_G) (M0 : k_M) (sz : Nat) (post : Int32 → k_M → Prop) (p0 : Nat) (p1 : Int32) (p2 : Int32) (h : wp_X3_receive G post p0 p1 p2 M0) : Met l yX3_receive wsX3_receive ({ frames := 4, cells := 0, slots := 0, locals := 103 }) (va_Pc [.ref p0, .int p1, .int p2] (kPre G M0 sz)) (va_Qi post (kB G M0 sz) (kA M0 sz)) 0 0 (kA M0 sz) := by
  refine Met.ofW (cc := cX3_receive) (maxL := 3) (ret := (some .int)) (by decide) rfl ?_
  intro p e s m args below meth c s₁ B hml hv
  obtain ⟨rfl, hsz, hR, hE⟩ := hv
  have hx := B.exec
  have hb := B.bytes
  have hr := B.returns
  have hts := atoms_spec (ws := wsX3_receive) B.pre
  have hown : s.vm.findClass RX3 = some m.cls := findClass_of_methodNamed B.named
  have hlocks := B.notSynchronized
  subst hsz
  have hK := hE.1
  have hA : ∀ q, s.heap.size ≤ q → kA M0 s.heap.size q := kA.new
  have hS : va_S (kA M0 s.heap.size) s.heap s.heap [] := va_S.rf
  have hw1 := hts (.fieldLink RX3 10 "ForkedStamps" "now" "LForkedStamps$State;") (by decide +kernel)
  have hw2 := hts (.fieldLink RX3 77 "ForkedStamps$State" "eventCount" "I") (by decide +kernel)
  have hw3 := hts (.fieldLink RX3 93 "ForkedStamps$State" "helpers" "[LForkedStamps$Stamp;") (by decide +kernel)
  have hw4 := hts (.fieldLink RX3 97 "ForkedStamps$State" "messages" "[LForkedStamps$Stamp;") (by decide +kernel)
  have hl := lv_entry ([.ref p0, .int p1, .int p2]) (n := 3) (Nat.le_of_ble_eq_true rfl)
  rw [lg_entry_eq]
  generalize (lg_sl ([.ref p0, .int p1, .int p2]) ++ List.replicate (3 - (lg_sl ([.ref p0, .int p1, .int p2])).length) Slot.unset).toArray = ls at hl ⊢
  have hl : lv_has ls 3 [(0, .ref p0), (1, .int p1), (2, .int p2)] := hl
  have hR0 := hR
  refine lv_aload_n hx hb dX3_receive_0 rfl (lv_at hl 0 rfl) ?_
  obtain ⟨fs1, v2, hm3, hv4, h⟩ := h
  refine k_get (ci := 4) (C := RX3) (T := TX3) (N := 8) hx hb hts in_X3_receive_X3 hown hK hR hm3 rfl 0 (by decide) hw1 (fun _ h9 => h9) hv4 dX3_receive_1 ?_
  refine lv_iload_n hx hb dX3_receive_4 rfl (lv_at hl 1 rfl) ?_
  obtain ⟨fs8, hm7, h⟩ := h
  refine k_calli0 (va_runV (As := [.int p1]) (rest := []) ⟨hx, hb, hml, hown, hts⟩ (c_X2_isHelper l G _ _ _ v2 p1 h) (cwV 1 hts gX3_receive_X2_isHelper rfl rfl rfl (by decide +kernel) ⟨Nat.le_of_ble_eq_true rfl, Nat.le_of_ble_eq_true rfl⟩) (k_preV (q := (RX2, TX2, 7)) hm7 rfl hR hS hA hE) rfl rfl hl.1 rfl (lv_room (Nat.le_of_ble_eq_true rfl)) dX3_receive_5 ⟨Nat.zero_le _, Nat.zero_le _⟩) hR hS hA (fun r5 M6 H locs h hR hS => ?_)
  obtain ⟨ha, hb2⟩ := h
  refine lv_if_eq (tgt := 22) hx hb dX3_receive_8 (by decide) (fun hc => ?_) (fun hc => ?_)
  · replace h := ha hc
    refine lv_iconst (v := (-1 : Int32)) hx hb dX3_receive_22 (by decide) ?_
    exact k_reti hx hb hr hlocks rfl hR hS h dX3_receive_23
  · replace h := hb2 hc
    refine lv_aload_n hx hb dX3_receive_11 rfl (lv_at hl 0 rfl) ?_
    obtain ⟨fs9, v10, hm11, hv12, h⟩ := h
    refine k_get (ci := 4) (C := RX3) (T := TX3) (N := 8) hx hb hts in_X3_receive_X3 hown hK hR hm11 rfl 0 (by decide) hw1 (fun _ h9 => h9) hv12 dX3_receive_12 ?_
    refine lv_iload_n hx hb dX3_receive_15 rfl (lv_at hl 2 rfl) ?_
    obtain ⟨fs16, hm15, h⟩ := h
    refine k_calli0 (va_runV (As := [.int p2]) (rest := []) ⟨hx, hb, hml, hown, hts⟩ (c_X2_isMessage l G _ _ _ v10 p2 h) (cwV 1 hts gX3_receive_X2_isMessage rfl rfl rfl (by decide +kernel) ⟨Nat.le_of_ble_eq_true rfl, Nat.le_of_ble_eq_true rfl⟩) (k_preV (q := (RX2, TX2, 7)) hm15 rfl hR hS hA hE) rfl rfl hl.1 rfl (lv_room (Nat.le_of_ble_eq_true rfl)) dX3_receive_16 ⟨Nat.zero_le _, Nat.zero_le _⟩) hR hS hA (fun r13 M14 H locs h hR hS => ?_)
    obtain ⟨ha, hb2⟩ := h
    refine lv_if_ne (tgt := 24) hx hb dX3_receive_19 (by decide) (fun hc => ?_) (fun hc => ?_)
    · replace h := ha hc
      refine lv_aload_n hx hb dX3_receive_24 rfl (lv_at hl 0 rfl) ?_
      obtain ⟨fs17, v18, hm19, hv20, h⟩ := h
      refine k_get (ci := 4) (C := RX3) (T := TX3) (N := 8) hx hb hts in_X3_receive_X3 hown hK hR hm19 rfl 0 (by decide) hw1 (fun _ h9 => h9) hv20 dX3_receive_25 ?_
      obtain ⟨fs21, v22, hm23, hv24, h⟩ := h
      refine k_get (ci := 3) (C := RX2) (T := TX2) (N := 7) hx hb hts in_X3_receive_X2 hown hK hR hm23 rfl 6 (by decide) hw2 (fun _ h9 => h9) hv24 dX3_receive_28 ?_
      refine lv_bipush (v := (120 : Int32)) hx hb dX3_receive_31 (by decide) ?_
      obtain ⟨ha, hb2⟩ := h
      refine lv_icmp_lt (tgt := 39) hx hb dX3_receive_33 (by decide) (fun hc => ?_) (fun hc => ?_)
      · replace h := ha hc
        refine lv_aload_n hx hb dX3_receive_39 rfl (lv_at hl 0 rfl) ?_
        obtain ⟨fs28, hm27, h⟩ := h
        refine k_callv0 (va_runV (As := []) (rest := []) ⟨hx, hb, hml, hown, hts⟩ (c_X3_remember l G _ _ _ p0 h) (cwV 0 hts gX3_receive_X3_remember rfl rfl rfl (by decide +kernel) ⟨Nat.le_of_ble_eq_true rfl, Nat.le_of_ble_eq_true rfl⟩) (k_preV (q := (RX3, TX3, 8)) hm27 rfl hR hS hA hE) rfl rfl hl.1 rfl (lv_room (Nat.le_of_ble_eq_true rfl)) dX3_receive_40 ⟨Nat.zero_le _, Nat.zero_le _⟩) hR hS hA (fun M26 H locs h hR hS => ?_)
        refine lv_aload_n hx hb dX3_receive_43 rfl (lv_at hl 0 rfl) ?_
        obtain ⟨fs29, v30, hm31, hv32, h⟩ := h
        refine k_get (ci := 4) (C := RX3) (T := TX3) (N := 8) hx hb hts in_X3_receive_X3 hown hK hR hm31 rfl 0 (by decide) hw1 (fun _ h9 => h9) hv32 dX3_receive_44 ?_
        obtain ⟨fs33, v34, hm35, hv36, h⟩ := h
        refine k_get (ci := 3) (C := RX2) (T := TX2) (N := 7) hx hb hts in_X3_receive_X2 hown hK hR hm35 rfl 1 (by decide) hw3 (fun _ h9 => h9) hv36 dX3_receive_47 ?_
        refine lv_iload_n hx hb dX3_receive_50 rfl (lv_at hl 1 rfl) ?_
        obtain ⟨n37, f38, v39, hm40, hv41, hq42, h⟩ := h
        refine k_ald1 hx hb hK hR hm40 hv41 hq42 dX3_receive_51 ?_
        refine lv_aload_n hx hb dX3_receive_52 rfl (lv_at hl 0 rfl) ?_
        obtain ⟨fs43, v44, hm45, hv46, h⟩ := h
        refine k_get (ci := 4) (C := RX3) (T := TX3) (N := 8) hx hb hts in_X3_receive_X3 hown hK hR hm45 rfl 0 (by decide) hw1 (fun _ h9 => h9) hv46 dX3_receive_53 ?_
        obtain ⟨fs47, v48, hm49, hv50, h⟩ := h
        refine k_get (ci := 3) (C := RX2) (T := TX2) (N := 7) hx hb hts in_X3_receive_X2 hown hK hR hm49 rfl 2 (by decide) hw4 (fun _ h9 => h9) hv50 dX3_receive_56 ?_
        refine lv_iload_n hx hb dX3_receive_59 rfl (lv_at hl 2 rfl) ?_
        obtain ⟨n51, f52, v53, hm54, hv55, hq56, h⟩ := h
        refine k_ald1 hx hb hK hR hm54 hv55 hq56 dX3_receive_60 ?_
        obtain ⟨fs60, hm59, h⟩ := h
        refine k_callv0 (va_runV (As := [.ref v53]) (rest := []) ⟨hx, hb, hml, hown, hts⟩ (c_X1_takeOver l G _ _ _ v39 v53 h) (cwV 1 hts gX3_receive_X1_takeOver rfl rfl rfl (by decide +kernel) ⟨Nat.le_of_ble_eq_true rfl, Nat.le_of_ble_eq_true rfl⟩) (k_preV (q := (RX1, TX1, 3)) hm59 rfl hR hS hA hE) rfl rfl hl.1 rfl (lv_room (Nat.le_of_ble_eq_true rfl)) dX3_receive_61 ⟨Nat.zero_le _, Nat.zero_le _⟩) hR hS hA (fun M58 H locs h hR hS => ?_)
        refine lv_aload_n hx hb dX3_receive_64 rfl (lv_at hl 0 rfl) ?_
        obtain ⟨fs61, v62, hm63, hv64, h⟩ := h
        refine k_get (ci := 4) (C := RX3) (T := TX3) (N := 8) hx hb hts in_X3_receive_X3 hown hK hR hm63 rfl 0 (by decide) hw1 (fun _ h9 => h9) hv64 dX3_receive_65 ?_
        refine lv_iload_n hx hb dX3_receive_68 rfl (lv_at hl 1 rfl) ?_
        obtain ⟨fs68, hm67, h⟩ := h
        refine k_calli0 (va_runV (As := [.int p1]) (rest := []) ⟨hx, hb, hml, hown, hts⟩ (c_X2_addEvent l G _ _ _ v62 p1 h) (cwV 1 hts gX3_receive_X2_addEvent rfl rfl rfl (by decide +kernel) ⟨Nat.le_of_ble_eq_true rfl, Nat.le_of_ble_eq_true rfl⟩) (k_preV (q := (RX2, TX2, 7)) hm67 rfl hR hS hA hE) rfl rfl hl.1 rfl (lv_room (Nat.le_of_ble_eq_true rfl)) dX3_receive_69 ⟨Nat.zero_le _, Nat.zero_le _⟩) hR hS hA (fun r65 M66 H locs h hR hS => ?_)
        exact k_reti hx hb hr hlocks rfl hR hS h dX3_receive_72
      · replace h := hb2 hc
        refine lv_bipush (v := (-4 : Int32)) hx hb dX3_receive_36 (by decide) ?_
        exact k_reti hx hb hr hlocks rfl hR hS h dX3_receive_38
    · replace h := hb2 hc
      refine lv_iconst (v := (-1 : Int32)) hx hb dX3_receive_22 (by decide) ?_
      exact k_reti hx hb hr hlocks rfl hR hS h dX3_receive_23

def wp_X3_drop (G : k_G) (post : Int32 → k_M → Prop) (p0 : Nat) (p1 : Int32) (M0 : k_M) : Prop :=
  (∃ fs1 v2, M0 p0 = some (kO 4 fs1) ∧ fs1[0]? = some (.ref v2) ∧
  (∃ fs8, M0 v2 = some (kO 3 fs8) ∧ wp_X2_isMessage G (fun r5 M6 =>
  ((¬ r5 = 0 →
  (∃ fs12, M6 p0 = some (kO 4 fs12) ∧ wp_X3_remember G (fun M10 =>
    (∃ fs13 v14, M10 p0 = some (kO 4 fs13) ∧ fs13[0]? = some (.ref v14) ∧
    (∃ fs20, M10 v14 = some (kO 3 fs20) ∧ wp_X2_removeMessage G (fun M18 =>
    (∃ fs21 v22, M18 p0 = some (kO 4 fs21) ∧ fs21[0]? = some (.ref v22) ∧
    (∃ fs25 v26, M18 v22 = some (kO 3 fs25) ∧ fs25[4]? = some (.int v26) ∧
    post v26 M18))) v14 p1 M10))) p0 M6)) ∧
  (r5 = 0 →
  post (-1 : Int32) M6))) v2 p1 M0))
theorem in_X3_drop_X2 : ∀ w ∈ wsX20, w ∈ wsX3_drop := by decide +kernel
theorem in_X3_drop_X3 : ∀ w ∈ wsX30, w ∈ wsX3_drop := by decide +kernel
set_option maxHeartbeats 4000000 in
set_option maxRecDepth 100000 in
theorem c_X3_drop (l : Launch) (G : k_G) (M0 : k_M) (sz : Nat) (post : Int32 → k_M → Prop) (p0 : Nat) (p1 : Int32) (h : wp_X3_drop G post p0 p1 M0) : Met l yX3_drop wsX3_drop ({ frames := 4, cells := 0, slots := 0, locals := 103 }) (va_Pc [.ref p0, .int p1] (kPre G M0 sz)) (va_Qi post (kB G M0 sz) (kA M0 sz)) 0 0 (kA M0 sz) := by
  refine Met.ofW (cc := cX3_drop) (maxL := 2) (ret := (some .int)) (by decide) rfl ?_
  intro p e s m args below meth c s₁ B hml hv
  obtain ⟨rfl, hsz, hR, hE⟩ := hv
  have hx := B.exec
  have hb := B.bytes
  have hr := B.returns
  have hts := atoms_spec (ws := wsX3_drop) B.pre
  have hown : s.vm.findClass RX3 = some m.cls := findClass_of_methodNamed B.named
  have hlocks := B.notSynchronized
  subst hsz
  have hK := hE.1
  have hA : ∀ q, s.heap.size ≤ q → kA M0 s.heap.size q := kA.new
  have hS : va_S (kA M0 s.heap.size) s.heap s.heap [] := va_S.rf
  have hw1 := hts (.fieldLink RX3 10 "ForkedStamps" "now" "LForkedStamps$State;") (by decide +kernel)
  have hw2 := hts (.fieldLink RX3 84 "ForkedStamps$State" "messageCount" "I") (by decide +kernel)
  have hl := lv_entry ([.ref p0, .int p1]) (n := 2) (Nat.le_of_ble_eq_true rfl)
  rw [lg_entry_eq]
  generalize (lg_sl ([.ref p0, .int p1]) ++ List.replicate (2 - (lg_sl ([.ref p0, .int p1])).length) Slot.unset).toArray = ls at hl ⊢
  have hl : lv_has ls 2 [(0, .ref p0), (1, .int p1)] := hl
  have hR0 := hR
  refine lv_aload_n hx hb dX3_drop_0 rfl (lv_at hl 0 rfl) ?_
  obtain ⟨fs1, v2, hm3, hv4, h⟩ := h
  refine k_get (ci := 4) (C := RX3) (T := TX3) (N := 8) hx hb hts in_X3_drop_X3 hown hK hR hm3 rfl 0 (by decide) hw1 (fun _ h9 => h9) hv4 dX3_drop_1 ?_
  refine lv_iload_n hx hb dX3_drop_4 rfl (lv_at hl 1 rfl) ?_
  obtain ⟨fs8, hm7, h⟩ := h
  refine k_calli0 (va_runV (As := [.int p1]) (rest := []) ⟨hx, hb, hml, hown, hts⟩ (c_X2_isMessage l G _ _ _ v2 p1 h) (cwV 1 hts gX3_drop_X2_isMessage rfl rfl rfl (by decide +kernel) ⟨Nat.le_of_ble_eq_true rfl, Nat.le_of_ble_eq_true rfl⟩) (k_preV (q := (RX2, TX2, 7)) hm7 rfl hR hS hA hE) rfl rfl hl.1 rfl (lv_room (Nat.le_of_ble_eq_true rfl)) dX3_drop_5 ⟨Nat.zero_le _, Nat.zero_le _⟩) hR hS hA (fun r5 M6 H locs h hR hS => ?_)
  obtain ⟨ha, hb2⟩ := h
  refine lv_if_ne (tgt := 13) hx hb dX3_drop_8 (by decide) (fun hc => ?_) (fun hc => ?_)
  · replace h := ha hc
    refine lv_aload_n hx hb dX3_drop_13 rfl (lv_at hl 0 rfl) ?_
    obtain ⟨fs12, hm11, h⟩ := h
    refine k_callv0 (va_runV (As := []) (rest := []) ⟨hx, hb, hml, hown, hts⟩ (c_X3_remember l G _ _ _ p0 h) (cwV 0 hts gX3_drop_X3_remember rfl rfl rfl (by decide +kernel) ⟨Nat.le_of_ble_eq_true rfl, Nat.le_of_ble_eq_true rfl⟩) (k_preV (q := (RX3, TX3, 8)) hm11 rfl hR hS hA hE) rfl rfl hl.1 rfl (lv_room (Nat.le_of_ble_eq_true rfl)) dX3_drop_14 ⟨Nat.zero_le _, Nat.zero_le _⟩) hR hS hA (fun M10 H locs h hR hS => ?_)
    refine lv_aload_n hx hb dX3_drop_17 rfl (lv_at hl 0 rfl) ?_
    obtain ⟨fs13, v14, hm15, hv16, h⟩ := h
    refine k_get (ci := 4) (C := RX3) (T := TX3) (N := 8) hx hb hts in_X3_drop_X3 hown hK hR hm15 rfl 0 (by decide) hw1 (fun _ h9 => h9) hv16 dX3_drop_18 ?_
    refine lv_iload_n hx hb dX3_drop_21 rfl (lv_at hl 1 rfl) ?_
    obtain ⟨fs20, hm19, h⟩ := h
    refine k_callv0 (va_runV (As := [.int p1]) (rest := []) ⟨hx, hb, hml, hown, hts⟩ (c_X2_removeMessage l G _ _ _ v14 p1 h) (cwV 1 hts gX3_drop_X2_removeMessage rfl rfl rfl (by decide +kernel) ⟨Nat.le_of_ble_eq_true rfl, Nat.le_of_ble_eq_true rfl⟩) (k_preV (q := (RX2, TX2, 7)) hm19 rfl hR hS hA hE) rfl rfl hl.1 rfl (lv_room (Nat.le_of_ble_eq_true rfl)) dX3_drop_22 ⟨Nat.zero_le _, Nat.zero_le _⟩) hR hS hA (fun M18 H locs h hR hS => ?_)
    refine lv_aload_n hx hb dX3_drop_25 rfl (lv_at hl 0 rfl) ?_
    obtain ⟨fs21, v22, hm23, hv24, h⟩ := h
    refine k_get (ci := 4) (C := RX3) (T := TX3) (N := 8) hx hb hts in_X3_drop_X3 hown hK hR hm23 rfl 0 (by decide) hw1 (fun _ h9 => h9) hv24 dX3_drop_26 ?_
    obtain ⟨fs25, v26, hm27, hv28, h⟩ := h
    refine k_get (ci := 3) (C := RX2) (T := TX2) (N := 7) hx hb hts in_X3_drop_X2 hown hK hR hm27 rfl 4 (by decide) hw2 (fun _ h9 => h9) hv28 dX3_drop_29 ?_
    exact k_reti hx hb hr hlocks rfl hR hS h dX3_drop_32
  · replace h := hb2 hc
    refine lv_iconst (v := (-1 : Int32)) hx hb dX3_drop_11 (by decide) ?_
    exact k_reti hx hb hr hlocks rfl hR hS h dX3_drop_12

def wp_X3_ofMessage (G : k_G) (post : Int32 → k_M → Prop) (p0 : Nat) (p1 : Int32) (p2 : Int32) (M0 : k_M) : Prop :=
  (∃ fs1 v2, M0 p0 = some (kO 4 fs1) ∧ fs1[0]? = some (.ref v2) ∧
  (∃ fs8, M0 v2 = some (kO 3 fs8) ∧ wp_X2_isMessage G (fun r5 M6 =>
  ((¬ r5 = 0 →
  (∃ fs9 v10, M6 p0 = some (kO 4 fs9) ∧ fs9[0]? = some (.ref v10) ∧
    (∃ fs13 v14, M6 v10 = some (kO 3 fs13) ∧ fs13[2]? = some (.ref v14) ∧
    (∃ n17 f18 v19, M6 v14 = some (kO1 G n17 f18) ∧ vp_in p1 n17 ∧ f18 (p1).toNatClampNeg = some v19 ∧
    (((p2).toInt = 0 →
    (∃ fs23 v24, M6 p0 = some (kO 4 fs23) ∧ fs23[0]? = some (.ref v24) ∧
      (∃ fs27 v28, M6 v24 = some (kO 3 fs27) ∧ fs27[3]? = some (.ref v28) ∧
      (∃ n31 f32, M6 v28 = some (kI G n31 f32) ∧ vp_in p1 n31 ∧
      post (f32 (p1).toNatClampNeg) M6)))) ∧
    ((p2).toInt = 1 →
    (∃ fs38, M6 v19 = some (kO 2 fs38) ∧ wp_X1_sum G (fun r35 M36 =>
      post r35 M36) v19 M6)) ∧
    ((p2).toInt = 2 →
    (∃ fs42, M6 v19 = some (kO 2 fs42) ∧ wp_X1_knownCount G (fun r39 M40 =>
      post r39 M40) v19 M6)) ∧
    ((p2).toInt = 3 →
    (∃ fs46, M6 v19 = some (kO 2 fs46) ∧ wp_X1_knots G (fun r43 M44 =>
      post r43 M44) v19 M6)) ∧
    ((p2).toInt < 0 ∨ 3 < (p2).toInt →
    post (-2 : Int32) M6)))))) ∧
  (r5 = 0 →
  post (-1 : Int32) M6))) v2 p1 M0))
theorem in_X3_ofMessage_X2 : ∀ w ∈ wsX20, w ∈ wsX3_ofMessage := by decide +kernel
theorem in_X3_ofMessage_X3 : ∀ w ∈ wsX30, w ∈ wsX3_ofMessage := by decide +kernel
set_option maxHeartbeats 4000000 in
set_option maxRecDepth 100000 in
theorem c_X3_ofMessage (l : Launch) (G : k_G) (M0 : k_M) (sz : Nat) (post : Int32 → k_M → Prop) (p0 : Nat) (p1 : Int32) (p2 : Int32) (h : wp_X3_ofMessage G post p0 p1 p2 M0) : Met l yX3_ofMessage wsX3_ofMessage ({ frames := 8, cells := 0, slots := 0, locals := 181 }) (va_Pc [.ref p0, .int p1, .int p2] (kPre G M0 sz)) (va_Qi post (kB G M0 sz) (kA M0 sz)) 0 0 (kA M0 sz) := by
  refine Met.ofW (cc := cX3_ofMessage) (maxL := 4) (ret := (some .int)) (by decide) rfl ?_
  intro p e s m args below meth c s₁ B hml hv
  obtain ⟨rfl, hsz, hR, hE⟩ := hv
  have hx := B.exec
  have hb := B.bytes
  have hr := B.returns
  have hts := atoms_spec (ws := wsX3_ofMessage) B.pre
  have hown : s.vm.findClass RX3 = some m.cls := findClass_of_methodNamed B.named
  have hlocks := B.notSynchronized
  subst hsz
  have hK := hE.1
  have hA : ∀ q, s.heap.size ≤ q → kA M0 s.heap.size q := kA.new
  have hS : va_S (kA M0 s.heap.size) s.heap s.heap [] := va_S.rf
  have hw1 := hts (.fieldLink RX3 10 "ForkedStamps" "now" "LForkedStamps$State;") (by decide +kernel)
  have hw2 := hts (.fieldLink RX3 97 "ForkedStamps$State" "messages" "[LForkedStamps$Stamp;") (by decide +kernel)
  have hw3 := hts (.fieldLink RX3 130 "ForkedStamps$State" "senders" "[I") (by decide +kernel)
  have hl := lv_entry ([.ref p0, .int p1, .int p2]) (n := 4) (Nat.le_of_ble_eq_true rfl)
  rw [lg_entry_eq]
  generalize (lg_sl ([.ref p0, .int p1, .int p2]) ++ List.replicate (4 - (lg_sl ([.ref p0, .int p1, .int p2])).length) Slot.unset).toArray = ls at hl ⊢
  have hl : lv_has ls 4 [(0, .ref p0), (1, .int p1), (2, .int p2)] := hl
  have hR0 := hR
  refine lv_aload_n hx hb dX3_ofMessage_0 rfl (lv_at hl 0 rfl) ?_
  obtain ⟨fs1, v2, hm3, hv4, h⟩ := h
  refine k_get (ci := 4) (C := RX3) (T := TX3) (N := 8) hx hb hts in_X3_ofMessage_X3 hown hK hR hm3 rfl 0 (by decide) hw1 (fun _ h9 => h9) hv4 dX3_ofMessage_1 ?_
  refine lv_iload_n hx hb dX3_ofMessage_4 rfl (lv_at hl 1 rfl) ?_
  obtain ⟨fs8, hm7, h⟩ := h
  refine k_calli0 (va_runV (As := [.int p1]) (rest := []) ⟨hx, hb, hml, hown, hts⟩ (c_X2_isMessage l G _ _ _ v2 p1 h) (cwV 1 hts gX3_ofMessage_X2_isMessage rfl rfl rfl (by decide +kernel) ⟨Nat.le_of_ble_eq_true rfl, Nat.le_of_ble_eq_true rfl⟩) (k_preV (q := (RX2, TX2, 7)) hm7 rfl hR hS hA hE) rfl rfl hl.1 rfl (lv_room (Nat.le_of_ble_eq_true rfl)) dX3_ofMessage_5 ⟨Nat.zero_le _, Nat.zero_le _⟩) hR hS hA (fun r5 M6 H locs h hR hS => ?_)
  obtain ⟨ha, hb2⟩ := h
  refine lv_if_ne (tgt := 13) hx hb dX3_ofMessage_8 (by decide) (fun hc => ?_) (fun hc => ?_)
  · replace h := ha hc
    refine lv_aload_n hx hb dX3_ofMessage_13 rfl (lv_at hl 0 rfl) ?_
    obtain ⟨fs9, v10, hm11, hv12, h⟩ := h
    refine k_get (ci := 4) (C := RX3) (T := TX3) (N := 8) hx hb hts in_X3_ofMessage_X3 hown hK hR hm11 rfl 0 (by decide) hw1 (fun _ h9 => h9) hv12 dX3_ofMessage_14 ?_
    obtain ⟨fs13, v14, hm15, hv16, h⟩ := h
    refine k_get (ci := 3) (C := RX2) (T := TX2) (N := 7) hx hb hts in_X3_ofMessage_X2 hown hK hR hm15 rfl 2 (by decide) hw2 (fun _ h9 => h9) hv16 dX3_ofMessage_17 ?_
    refine lv_iload_n hx hb dX3_ofMessage_20 rfl (lv_at hl 1 rfl) ?_
    obtain ⟨n17, f18, v19, hm20, hv21, hq22, h⟩ := h
    refine k_ald1 hx hb hK hR hm20 hv21 hq22 dX3_ofMessage_21 ?_
    refine lv_astore_n (lv' := [(3, .ref v19), (0, .ref p0), (1, .int p1), (2, .int p2)]) hx hb dX3_ofMessage_22 rfl hl (by decide) rfl (fun ls hl => ?_)
    refine lv_iload_n hx hb dX3_ofMessage_23 rfl (lv_at hl 3 rfl) ?_
    have hsw := h
    obtain ⟨hs0, hs1, hs2, hs3, hs4⟩ := hsw
    by_cases hout : (p2).toInt < 0 ∨ 3 < (p2).toInt
    · refine lv_tableOut (tgt := 81) hx hb dX3_ofMessage_24 hout (by decide) ?_
      replace h := hs4 hout
      refine lv_bipush (v := (-2 : Int32)) hx hb dX3_ofMessage_81 (by decide) ?_
      exact k_reti hx hb hr hlocks rfl hR hS h dX3_ofMessage_83
    have hin : (p2).toInt = 0 ∨ (p2).toInt = 1 ∨ (p2).toInt = 2 ∨ (p2).toInt = 3 := by omega
    rcases hin with hk | hk | hk | hk
    · refine lv_tableIn (tgt := 56) (off := 32) hx hb dX3_ofMessage_24 (by omega) (by omega) (by rw [hk]; rfl) (by decide) ?_
      replace h := hs0 hk
      refine lv_aload_n hx hb dX3_ofMessage_56 rfl (lv_at hl 1 rfl) ?_
      obtain ⟨fs23, v24, hm25, hv26, h⟩ := h
      refine k_get (ci := 4) (C := RX3) (T := TX3) (N := 8) hx hb hts in_X3_ofMessage_X3 hown hK hR hm25 rfl 0 (by decide) hw1 (fun _ h9 => h9) hv26 dX3_ofMessage_57 ?_
      obtain ⟨fs27, v28, hm29, hv30, h⟩ := h
      refine k_get (ci := 3) (C := RX2) (T := TX2) (N := 7) hx hb hts in_X3_ofMessage_X2 hown hK hR hm29 rfl 3 (by decide) hw3 (fun _ h9 => h9) hv30 dX3_ofMessage_60 ?_
      refine lv_iload_n hx hb dX3_ofMessage_63 rfl (lv_at hl 2 rfl) ?_
      obtain ⟨n31, f32, hm33, hv34, h⟩ := h
      refine k_iald hx hb hK hR hm33 hv34 dX3_ofMessage_64 ?_
      exact k_reti hx hb hr hlocks rfl hR hS h dX3_ofMessage_65
    · refine lv_tableIn (tgt := 66) (off := 42) hx hb dX3_ofMessage_24 (by omega) (by omega) (by rw [hk]; rfl) (by decide) ?_
      replace h := hs1 hk
      refine lv_aload_n hx hb dX3_ofMessage_66 rfl (lv_at hl 0 rfl) ?_
      obtain ⟨fs38, hm37, h⟩ := h
      refine k_calli0 (va_runV (As := []) (rest := []) ⟨hx, hb, hml, hown, hts⟩ (c_X1_sum l G _ _ _ v19 h) (cwV 0 hts gX3_ofMessage_X1_sum rfl rfl rfl (by decide +kernel) ⟨Nat.le_of_ble_eq_true rfl, Nat.le_of_ble_eq_true rfl⟩) (k_preV (q := (RX1, TX1, 3)) hm37 rfl hR hS hA hE) rfl rfl hl.1 rfl (lv_room (Nat.le_of_ble_eq_true rfl)) dX3_ofMessage_67 ⟨Nat.zero_le _, Nat.zero_le _⟩) hR hS hA (fun r35 M36 H locs h hR hS => ?_)
      exact k_reti hx hb hr hlocks rfl hR hS h dX3_ofMessage_70
    · refine lv_tableIn (tgt := 71) (off := 47) hx hb dX3_ofMessage_24 (by omega) (by omega) (by rw [hk]; rfl) (by decide) ?_
      replace h := hs2 hk
      refine lv_aload_n hx hb dX3_ofMessage_71 rfl (lv_at hl 0 rfl) ?_
      obtain ⟨fs42, hm41, h⟩ := h
      refine k_calli0 (va_runV (As := []) (rest := []) ⟨hx, hb, hml, hown, hts⟩ (c_X1_knownCount l G _ _ _ v19 h) (cwV 0 hts gX3_ofMessage_X1_knownCount rfl rfl rfl (by decide +kernel) ⟨Nat.le_of_ble_eq_true rfl, Nat.le_of_ble_eq_true rfl⟩) (k_preV (q := (RX1, TX1, 3)) hm41 rfl hR hS hA hE) rfl rfl hl.1 rfl (lv_room (Nat.le_of_ble_eq_true rfl)) dX3_ofMessage_72 ⟨Nat.zero_le _, Nat.zero_le _⟩) hR hS hA (fun r39 M40 H locs h hR hS => ?_)
      exact k_reti hx hb hr hlocks rfl hR hS h dX3_ofMessage_75
    · refine lv_tableIn (tgt := 76) (off := 52) hx hb dX3_ofMessage_24 (by omega) (by omega) (by rw [hk]; rfl) (by decide) ?_
      replace h := hs3 hk
      refine lv_aload_n hx hb dX3_ofMessage_76 rfl (lv_at hl 0 rfl) ?_
      obtain ⟨fs46, hm45, h⟩ := h
      refine k_calli0 (va_runV (As := []) (rest := []) ⟨hx, hb, hml, hown, hts⟩ (c_X1_knots l G _ _ _ v19 h) (cwV 0 hts gX3_ofMessage_X1_knots rfl rfl rfl (by decide +kernel) ⟨Nat.le_of_ble_eq_true rfl, Nat.le_of_ble_eq_true rfl⟩) (k_preV (q := (RX1, TX1, 3)) hm45 rfl hR hS hA hE) rfl rfl hl.1 rfl (lv_room (Nat.le_of_ble_eq_true rfl)) dX3_ofMessage_77 ⟨Nat.zero_le _, Nat.zero_le _⟩) hR hS hA (fun r43 M44 H locs h hR hS => ?_)
      exact k_reti hx hb hr hlocks rfl hR hS h dX3_ofMessage_80
  · replace h := hb2 hc
    refine lv_iconst (v := (-1 : Int32)) hx hb dX3_ofMessage_11 (by decide) ?_
    exact k_reti hx hb hr hlocks rfl hR hS h dX3_ofMessage_12

def wp_X3_isKind (G : k_G) (post : Int32 → k_M → Prop) (p0 : Int32) (M0 : k_M) : Prop :=
  ((p0 = 0 →
  post (1 : Int32) M0) ∧
  (¬ p0 = 0 →
  ((¬ p0 = (1 : Int32) →
    post (0 : Int32) M0) ∧
    (p0 = (1 : Int32) →
    post (1 : Int32) M0))))
set_option maxHeartbeats 4000000 in
set_option maxRecDepth 100000 in
theorem c_X3_isKind (l : Launch) (G : k_G) (M0 : k_M) (sz : Nat) (post : Int32 → k_M → Prop) (p0 : Int32) (h : wp_X3_isKind G post p0 M0) : Met l yX3_isKind wsX3_isKind ({ frames := 0, cells := 0, slots := 0, locals := 0 }) (va_Pc [.int p0] (kPre G M0 sz)) (va_Qi post (kB G M0 sz) (kA M0 sz)) 0 0 (kA M0 sz) := by
  refine Met.ofW (cc := cX3_isKind) (maxL := 1) (ret := (some .boolean)) (by decide) rfl ?_
  intro p e s m args below meth c s₁ B hml hv
  obtain ⟨rfl, hsz, hR, hE⟩ := hv
  have hx := B.exec
  have hb := B.bytes
  have hr := B.returns
  have hts := atoms_spec (ws := wsX3_isKind) B.pre
  have hown : s.vm.findClass RX3 = some m.cls := findClass_of_methodNamed B.named
  have hlocks := B.notSynchronized
  subst hsz
  have hK := hE.1
  have hA : ∀ q, s.heap.size ≤ q → kA M0 s.heap.size q := kA.new
  have hS : va_S (kA M0 s.heap.size) s.heap s.heap [] := va_S.rf
  have hl := lv_entry ([.int p0]) (n := 1) (Nat.le_of_ble_eq_true rfl)
  rw [lg_entry_eq]
  generalize (lg_sl ([.int p0]) ++ List.replicate (1 - (lg_sl ([.int p0])).length) Slot.unset).toArray = ls at hl ⊢
  have hl : lv_has ls 1 [(0, .int p0)] := hl
  have hR0 := hR
  refine lv_iload_n hx hb dX3_isKind_0 rfl (lv_at hl 0 rfl) ?_
  obtain ⟨ha, hb2⟩ := h
  refine lv_if_eq (tgt := 9) hx hb dX3_isKind_1 (by decide) (fun hc => ?_) (fun hc => ?_)
  · replace h := ha hc
    refine lv_iconst (v := (1 : Int32)) hx hb dX3_isKind_9 (by decide) ?_
    refine lv_goto (tgt := 14) hx hb dX3_isKind_10 (by decide) ?_
    exact k_reti hx hb hr hlocks (by decide) hR hS h dX3_isKind_14
  · replace h := hb2 hc
    refine lv_iload_n hx hb dX3_isKind_4 rfl (lv_at hl 0 rfl) ?_
    refine lv_iconst (v := (1 : Int32)) hx hb dX3_isKind_5 (by decide) ?_
    obtain ⟨ha, hb2⟩ := h
    refine lv_icmp_ne (tgt := 13) hx hb dX3_isKind_6 (by decide) (fun hc => ?_) (fun hc => ?_)
    · replace h := ha hc
      refine lv_iconst (v := (0 : Int32)) hx hb dX3_isKind_13 (by decide) ?_
      exact k_reti hx hb hr hlocks (by decide) hR hS h dX3_isKind_14
    · replace h := hb2 hc
      refine lv_iconst (v := (1 : Int32)) hx hb dX3_isKind_9 (by decide) ?_
      refine lv_goto (tgt := 14) hx hb dX3_isKind_10 (by decide) ?_
      exact k_reti hx hb hr hlocks (by decide) hR hS h dX3_isKind_14

def wp_X3_height (G : k_G) (post : Int32 → k_M → Prop) (p0 : Nat) (p1 : Int32) (p2 : Int32) (p3 : Int32) (M0 : k_M) : Prop :=
  wp_X3_isKind G (fun r1 M2 =>
  ((¬ r1 = 0 →
  (∃ fs4 v5, M2 p0 = some (kO 4 fs4) ∧ fs4[0]? = some (.ref v5) ∧
    (∃ fs11, M2 v5 = some (kO 3 fs11) ∧ wp_X2_stampOf G (fun r8 M9 => (r8 = none →
    post (-1 : Int32) M9) ∧ (∀ v12, r8 = some v12 →
    ((p3 < 0 →
      post (-1 : Int32) M9) ∧
      (¬ p3 < 0 →
      ((p3 < (16 : Int32) →
        (∃ fs13 v14, M9 v12 = some (kO 2 fs13) ∧ fs13[0]? = some (.ref v14) ∧
          (∃ n17 f18, M9 v14 = some (kI G n17 f18) ∧ vp_in p3 n17 ∧
          post (f18 (p3).toNatClampNeg) M9))) ∧
        (¬ p3 < (16 : Int32) →
        post (-1 : Int32) M9)))))) v5 p1 p2 M2))) ∧
  (r1 = 0 →
  post (-2 : Int32) M2))) p1 M0
theorem in_X3_height_X1 : ∀ w ∈ wsX10, w ∈ wsX3_height := by decide +kernel
theorem in_X3_height_X3 : ∀ w ∈ wsX30, w ∈ wsX3_height := by decide +kernel
set_option maxHeartbeats 4000000 in
set_option maxRecDepth 100000 in
theorem c_X3_height (l : Launch) (G : k_G) (M0 : k_M) (sz : Nat) (post : Int32 → k_M → Prop) (p0 : Nat) (p1 : Int32) (p2 : Int32) (p3 : Int32) (h : wp_X3_height G post p0 p1 p2 p3 M0) : Met l yX3_height wsX3_height ({ frames := 2, cells := 0, slots := 0, locals := 43 }) (va_Pc [.ref p0, .int p1, .int p2, .int p3] (kPre G M0 sz)) (va_Qi post (kB G M0 sz) (kA M0 sz)) 0 0 (kA M0 sz) := by
  refine Met.ofW (cc := cX3_height) (maxL := 5) (ret := (some .int)) (by decide) rfl ?_
  intro p e s m args below meth c s₁ B hml hv
  obtain ⟨rfl, hsz, hR, hE⟩ := hv
  have hx := B.exec
  have hb := B.bytes
  have hr := B.returns
  have hts := atoms_spec (ws := wsX3_height) B.pre
  have hown : s.vm.findClass RX3 = some m.cls := findClass_of_methodNamed B.named
  have hlocks := B.notSynchronized
  subst hsz
  have hK := hE.1
  have hA : ∀ q, s.heap.size ≤ q → kA M0 s.heap.size q := kA.new
  have hS : va_S (kA M0 s.heap.size) s.heap s.heap [] := va_S.rf
  have hw1 := hts (.fieldLink RX3 10 "ForkedStamps" "now" "LForkedStamps$State;") (by decide +kernel)
  have hw2 := hts (.fieldLink RX3 140 "ForkedStamps$Stamp" "heights" "[I") (by decide +kernel)
  have hl := lv_entry ([.ref p0, .int p1, .int p2, .int p3]) (n := 5) (Nat.le_of_ble_eq_true rfl)
  rw [lg_entry_eq]
  generalize (lg_sl ([.ref p0, .int p1, .int p2, .int p3]) ++ List.replicate (5 - (lg_sl ([.ref p0, .int p1, .int p2, .int p3])).length) Slot.unset).toArray = ls at hl ⊢
  have hl : lv_has ls 5 [(0, .ref p0), (1, .int p1), (2, .int p2), (3, .int p3)] := hl
  have hR0 := hR
  refine lv_iload_n hx hb dX3_height_0 rfl (lv_at hl 1 rfl) ?_
  refine k_calli0 (va_runS (As := [.int p1]) (rest := []) ⟨hx, hb, hml, hown, hts⟩ (c_X3_isKind l G _ _ _ p1 h) (va_cwS 1 hts gX3_height_X3_isKind rfl rfl rfl (by decide +kernel) ⟨Nat.le_of_ble_eq_true rfl, Nat.le_of_ble_eq_true rfl⟩) (k_preS hR hS hA hE) rfl rfl hl.1 rfl (lv_room (Nat.le_of_ble_eq_true rfl)) dX3_height_1 ⟨Nat.zero_le _, Nat.zero_le _⟩) hR hS hA (fun r1 M2 H locs h hR hS => ?_)
  obtain ⟨ha, hb2⟩ := h
  refine lv_if_ne (tgt := 10) hx hb dX3_height_4 (by decide) (fun hc => ?_) (fun hc => ?_)
  · replace h := ha hc
    refine lv_aload_n hx hb dX3_height_10 rfl (lv_at hl 0 rfl) ?_
    obtain ⟨fs4, v5, hm6, hv7, h⟩ := h
    refine k_get (ci := 4) (C := RX3) (T := TX3) (N := 8) hx hb hts in_X3_height_X3 hown hK hR hm6 rfl 0 (by decide) hw1 (fun _ h9 => h9) hv7 dX3_height_11 ?_
    refine lv_iload_n hx hb dX3_height_14 rfl (lv_at hl 1 rfl) ?_
    refine lv_iload_n hx hb dX3_height_15 rfl (lv_at hl 2 rfl) ?_
    obtain ⟨fs11, hm10, h⟩ := h
    refine k_callq0 (va_runV (As := [.int p1, .int p2]) (rest := []) ⟨hx, hb, hml, hown, hts⟩ (c_X2_stampOf l G _ _ _ v5 p1 p2 h) (cwV 2 hts gX3_height_X2_stampOf rfl rfl rfl (by decide +kernel) ⟨Nat.le_of_ble_eq_true rfl, Nat.le_of_ble_eq_true rfl⟩) (k_preV (q := (RX2, TX2, 7)) hm10 rfl hR hS hA hE) rfl rfl hl.1 rfl (lv_room (Nat.le_of_ble_eq_true rfl)) dX3_height_16 ⟨Nat.zero_le _, Nat.zero_le _⟩) hR hS hA (fun r8 M9 H locs h hR hS => ?_)
    obtain ⟨ha, hb2⟩ := h
    rcases r8 with _ | v12
    · replace h := ha rfl
      refine lv_astoreN (lv' := [(4, .null), (0, .ref p0), (1, .int p1), (2, .int p2), (3, .int p3)]) hx hb dX3_height_19 hl (by decide) rfl (fun ls hl => ?_)
      refine lv_aloadN hx hb dX3_height_21 (lv_at hl 0 rfl) ?_
      refine lv_ifnullN (tgt := 36) hx hb dX3_height_23 (by decide) ?_
      refine lv_iconst (v := (-1 : Int32)) hx hb dX3_height_36 (by decide) ?_
      exact k_reti hx hb hr hlocks rfl hR hS h dX3_height_37
    · replace h := hb2 v12 rfl
      refine lv_astore (lv' := [(4, .ref v12), (0, .ref p0), (1, .int p1), (2, .int p2), (3, .int p3)]) hx hb dX3_height_19 hl (by decide) rfl (fun ls hl => ?_)
      refine lv_aload hx hb dX3_height_21 (lv_at hl 0 rfl) ?_
      refine lv_ifnull hx hb dX3_height_23 ?_
      refine lv_iload_n hx hb dX3_height_26 rfl (lv_at hl 4 rfl) ?_
      obtain ⟨ha, hb2⟩ := h
      refine lv_if_lt (tgt := 36) hx hb dX3_height_27 (by decide) (fun hc => ?_) (fun hc => ?_)
      · replace h := ha hc
        refine lv_iconst (v := (-1 : Int32)) hx hb dX3_height_36 (by decide) ?_
        exact k_reti hx hb hr hlocks rfl hR hS h dX3_height_37
      · replace h := hb2 hc
        refine lv_iload_n hx hb dX3_height_30 rfl (lv_at hl 4 rfl) ?_
        refine lv_bipush (v := (16 : Int32)) hx hb dX3_height_31 (by decide) ?_
        obtain ⟨ha, hb2⟩ := h
        refine lv_icmp_lt (tgt := 38) hx hb dX3_height_33 (by decide) (fun hc => ?_) (fun hc => ?_)
        · replace h := ha hc
          refine lv_aload hx hb dX3_height_38 (lv_at hl 0 rfl) ?_
          obtain ⟨fs13, v14, hm15, hv16, h⟩ := h
          refine k_get (ci := 2) (C := RX1) (T := TX1) (N := 3) hx hb hts in_X3_height_X1 hown hK hR hm15 rfl 0 (by decide) hw2 (fun _ h9 => h9) hv16 dX3_height_40 ?_
          refine lv_iload_n hx hb dX3_height_43 rfl (lv_at hl 4 rfl) ?_
          obtain ⟨n17, f18, hm19, hv20, h⟩ := h
          refine k_iald hx hb hK hR hm19 hv20 dX3_height_44 ?_
          exact k_reti hx hb hr hlocks rfl hR hS h dX3_height_45
        · replace h := hb2 hc
          refine lv_iconst (v := (-1 : Int32)) hx hb dX3_height_36 (by decide) ?_
          exact k_reti hx hb hr hlocks rfl hR hS h dX3_height_37
  · replace h := hb2 hc
    refine lv_bipush (v := (-2 : Int32)) hx hb dX3_height_7 (by decide) ?_
    exact k_reti hx hb hr hlocks rfl hR hS h dX3_height_9

def wp_X3_knows (G : k_G) (post : Int32 → k_M → Prop) (p0 : Nat) (p1 : Int32) (p2 : Int32) (p3 : Int32) (M0 : k_M) : Prop :=
  wp_X3_isKind G (fun r1 M2 =>
  ((¬ r1 = 0 →
  (∃ fs4 v5, M2 p0 = some (kO 4 fs4) ∧ fs4[0]? = some (.ref v5) ∧
    (∃ fs11, M2 v5 = some (kO 3 fs11) ∧ wp_X2_stampOf G (fun r8 M9 => (r8 = none →
    post (-1 : Int32) M9) ∧ (∀ v12, r8 = some v12 →
    (∃ fs13 v14, M9 p0 = some (kO 4 fs13) ∧ fs13[0]? = some (.ref v14) ∧
      (∃ fs20, M9 v14 = some (kO 3 fs20) ∧ wp_X2_isEvent G (fun r17 M18 =>
      ((¬ r17 = 0 →
      (∃ fs24, M18 v12 = some (kO 2 fs24) ∧ wp_X1_isKnown G (fun r21 M22 =>
        ((r21 = 0 →
        post (0 : Int32) M22) ∧
        (¬ r21 = 0 →
        post (1 : Int32) M22))) v12 p3 M18)) ∧
      (r17 = 0 →
      post (-1 : Int32) M18))) v14 p3 M9)))) v5 p1 p2 M2))) ∧
  (r1 = 0 →
  post (-2 : Int32) M2))) p1 M0
theorem in_X3_knows_X3 : ∀ w ∈ wsX30, w ∈ wsX3_knows := by decide +kernel
set_option maxHeartbeats 4000000 in
set_option maxRecDepth 100000 in
theorem c_X3_knows (l : Launch) (G : k_G) (M0 : k_M) (sz : Nat) (post : Int32 → k_M → Prop) (p0 : Nat) (p1 : Int32) (p2 : Int32) (p3 : Int32) (h : wp_X3_knows G post p0 p1 p2 p3 M0) : Met l yX3_knows wsX3_knows ({ frames := 2, cells := 0, slots := 0, locals := 43 }) (va_Pc [.ref p0, .int p1, .int p2, .int p3] (kPre G M0 sz)) (va_Qi post (kB G M0 sz) (kA M0 sz)) 0 0 (kA M0 sz) := by
  refine Met.ofW (cc := cX3_knows) (maxL := 5) (ret := (some .int)) (by decide) rfl ?_
  intro p e s m args below meth c s₁ B hml hv
  obtain ⟨rfl, hsz, hR, hE⟩ := hv
  have hx := B.exec
  have hb := B.bytes
  have hr := B.returns
  have hts := atoms_spec (ws := wsX3_knows) B.pre
  have hown : s.vm.findClass RX3 = some m.cls := findClass_of_methodNamed B.named
  have hlocks := B.notSynchronized
  subst hsz
  have hK := hE.1
  have hA : ∀ q, s.heap.size ≤ q → kA M0 s.heap.size q := kA.new
  have hS : va_S (kA M0 s.heap.size) s.heap s.heap [] := va_S.rf
  have hw1 := hts (.fieldLink RX3 10 "ForkedStamps" "now" "LForkedStamps$State;") (by decide +kernel)
  have hl := lv_entry ([.ref p0, .int p1, .int p2, .int p3]) (n := 5) (Nat.le_of_ble_eq_true rfl)
  rw [lg_entry_eq]
  generalize (lg_sl ([.ref p0, .int p1, .int p2, .int p3]) ++ List.replicate (5 - (lg_sl ([.ref p0, .int p1, .int p2, .int p3])).length) Slot.unset).toArray = ls at hl ⊢
  have hl : lv_has ls 5 [(0, .ref p0), (1, .int p1), (2, .int p2), (3, .int p3)] := hl
  have hR0 := hR
  refine lv_iload_n hx hb dX3_knows_0 rfl (lv_at hl 1 rfl) ?_
  refine k_calli0 (va_runS (As := [.int p1]) (rest := []) ⟨hx, hb, hml, hown, hts⟩ (c_X3_isKind l G _ _ _ p1 h) (va_cwS 1 hts gX3_knows_X3_isKind rfl rfl rfl (by decide +kernel) ⟨Nat.le_of_ble_eq_true rfl, Nat.le_of_ble_eq_true rfl⟩) (k_preS hR hS hA hE) rfl rfl hl.1 rfl (lv_room (Nat.le_of_ble_eq_true rfl)) dX3_knows_1 ⟨Nat.zero_le _, Nat.zero_le _⟩) hR hS hA (fun r1 M2 H locs h hR hS => ?_)
  obtain ⟨ha, hb2⟩ := h
  refine lv_if_ne (tgt := 10) hx hb dX3_knows_4 (by decide) (fun hc => ?_) (fun hc => ?_)
  · replace h := ha hc
    refine lv_aload_n hx hb dX3_knows_10 rfl (lv_at hl 0 rfl) ?_
    obtain ⟨fs4, v5, hm6, hv7, h⟩ := h
    refine k_get (ci := 4) (C := RX3) (T := TX3) (N := 8) hx hb hts in_X3_knows_X3 hown hK hR hm6 rfl 0 (by decide) hw1 (fun _ h9 => h9) hv7 dX3_knows_11 ?_
    refine lv_iload_n hx hb dX3_knows_14 rfl (lv_at hl 1 rfl) ?_
    refine lv_iload_n hx hb dX3_knows_15 rfl (lv_at hl 2 rfl) ?_
    obtain ⟨fs11, hm10, h⟩ := h
    refine k_callq0 (va_runV (As := [.int p1, .int p2]) (rest := []) ⟨hx, hb, hml, hown, hts⟩ (c_X2_stampOf l G _ _ _ v5 p1 p2 h) (cwV 2 hts gX3_knows_X2_stampOf rfl rfl rfl (by decide +kernel) ⟨Nat.le_of_ble_eq_true rfl, Nat.le_of_ble_eq_true rfl⟩) (k_preV (q := (RX2, TX2, 7)) hm10 rfl hR hS hA hE) rfl rfl hl.1 rfl (lv_room (Nat.le_of_ble_eq_true rfl)) dX3_knows_16 ⟨Nat.zero_le _, Nat.zero_le _⟩) hR hS hA (fun r8 M9 H locs h hR hS => ?_)
    obtain ⟨ha, hb2⟩ := h
    rcases r8 with _ | v12
    · replace h := ha rfl
      refine lv_astoreN (lv' := [(4, .null), (0, .ref p0), (1, .int p1), (2, .int p2), (3, .int p3)]) hx hb dX3_knows_19 hl (by decide) rfl (fun ls hl => ?_)
      refine lv_aloadN hx hb dX3_knows_21 (lv_at hl 0 rfl) ?_
      refine lv_ifnullN (tgt := 37) hx hb dX3_knows_23 (by decide) ?_
      refine lv_iconst (v := (-1 : Int32)) hx hb dX3_knows_37 (by decide) ?_
      exact k_reti hx hb hr hlocks rfl hR hS h dX3_knows_38
    · replace h := hb2 v12 rfl
      refine lv_astore (lv' := [(4, .ref v12), (0, .ref p0), (1, .int p1), (2, .int p2), (3, .int p3)]) hx hb dX3_knows_19 hl (by decide) rfl (fun ls hl => ?_)
      refine lv_aload hx hb dX3_knows_21 (lv_at hl 0 rfl) ?_
      refine lv_ifnull hx hb dX3_knows_23 ?_
      refine lv_aload_n hx hb dX3_knows_26 rfl (lv_at hl 1 rfl) ?_
      obtain ⟨fs13, v14, hm15, hv16, h⟩ := h
      refine k_get (ci := 4) (C := RX3) (T := TX3) (N := 8) hx hb hts in_X3_knows_X3 hown hK hR hm15 rfl 0 (by decide) hw1 (fun _ h9 => h9) hv16 dX3_knows_27 ?_
      refine lv_iload_n hx hb dX3_knows_30 rfl (lv_at hl 4 rfl) ?_
      obtain ⟨fs20, hm19, h⟩ := h
      refine k_calli0 (va_runV (As := [.int p3]) (rest := []) ⟨hx, hb, hml, hown, hts⟩ (c_X2_isEvent l G _ _ _ v14 p3 h) (cwV 1 hts gX3_knows_X2_isEvent rfl rfl rfl (by decide +kernel) ⟨Nat.le_of_ble_eq_true rfl, Nat.le_of_ble_eq_true rfl⟩) (k_preV (q := (RX2, TX2, 7)) hm19 rfl hR hS hA hE) rfl rfl hl.1 rfl (lv_room (Nat.le_of_ble_eq_true rfl)) dX3_knows_31 ⟨Nat.zero_le _, Nat.zero_le _⟩) hR hS hA (fun r17 M18 H locs h hR hS => ?_)
      obtain ⟨ha, hb2⟩ := h
      refine lv_if_ne (tgt := 39) hx hb dX3_knows_34 (by decide) (fun hc => ?_) (fun hc => ?_)
      · replace h := ha hc
        refine lv_aload hx hb dX3_knows_39 (lv_at hl 0 rfl) ?_
        refine lv_iload_n hx hb dX3_knows_41 rfl (lv_at hl 4 rfl) ?_
        obtain ⟨fs24, hm23, h⟩ := h
        refine k_calli0 (va_runV (As := [.int p3]) (rest := []) ⟨hx, hb, hml, hown, hts⟩ (c_X1_isKnown l G _ _ _ v12 p3 h) (cwV 1 hts gX3_knows_X1_isKnown rfl rfl rfl (by decide +kernel) ⟨Nat.le_of_ble_eq_true rfl, Nat.le_of_ble_eq_true rfl⟩) (k_preV (q := (RX1, TX1, 3)) hm23 rfl hR hS hA hE) rfl rfl hl.1 rfl (lv_room (Nat.le_of_ble_eq_true rfl)) dX3_knows_42 ⟨Nat.zero_le _, Nat.zero_le _⟩) hR hS hA (fun r21 M22 H locs h hR hS => ?_)
        obtain ⟨ha, hb2⟩ := h
        refine lv_if_eq (tgt := 52) hx hb dX3_knows_45 (by decide) (fun hc => ?_) (fun hc => ?_)
        · replace h := ha hc
          refine lv_iconst (v := (0 : Int32)) hx hb dX3_knows_52 (by decide) ?_
          exact k_reti hx hb hr hlocks rfl hR hS h dX3_knows_53
        · replace h := hb2 hc
          refine lv_iconst (v := (1 : Int32)) hx hb dX3_knows_48 (by decide) ?_
          refine lv_goto (tgt := 53) hx hb dX3_knows_49 (by decide) ?_
          exact k_reti hx hb hr hlocks rfl hR hS h dX3_knows_53
      · replace h := hb2 hc
        refine lv_iconst (v := (-1 : Int32)) hx hb dX3_knows_37 (by decide) ?_
        exact k_reti hx hb hr hlocks rfl hR hS h dX3_knows_38
  · replace h := hb2 hc
    refine lv_bipush (v := (-2 : Int32)) hx hb dX3_knows_7 (by decide) ?_
    exact k_reti hx hb hr hlocks rfl hR hS h dX3_knows_9

def wp_X3_count (G : k_G) (post : Int32 → k_M → Prop) (p0 : Nat) (p1 : Int32) (M0 : k_M) : Prop :=
  (((p1).toInt = 0 →
  (∃ fs1 v2, M0 p0 = some (kO 4 fs1) ∧ fs1[0]? = some (.ref v2) ∧
    (∃ fs8, M0 v2 = some (kO 3 fs8) ∧ wp_X2_helperSet G (fun r5 M6 =>
    post r5 M6) v2 M0))) ∧
  ((p1).toInt = 1 →
  (∃ fs9 v10, M0 p0 = some (kO 4 fs9) ∧ fs9[0]? = some (.ref v10) ∧
    (∃ fs13 v14, M0 v10 = some (kO 3 fs13) ∧ fs13[4]? = some (.int v14) ∧
    post v14 M0))) ∧
  ((p1).toInt = 2 →
  (∃ fs17 v18, M0 p0 = some (kO 4 fs17) ∧ fs17[0]? = some (.ref v18) ∧
    (∃ fs21 v22, M0 v18 = some (kO 3 fs21) ∧ fs21[6]? = some (.int v22) ∧
    post v22 M0))) ∧
  ((p1).toInt = 3 →
  (∃ fs25 v26, M0 p0 = some (kO 4 fs25) ∧ fs25[0]? = some (.ref v26) ∧
    (∃ fs32, M0 v26 = some (kO 3 fs32) ∧ wp_X2_clashingPairs G (fun r29 M30 =>
    post r29 M30) v26 M0))) ∧
  ((p1).toInt = 4 →
  (∃ fs33 v34, M0 p0 = some (kO 4 fs33) ∧ fs33[0]? = some (.ref v34) ∧
    (∃ fs40, M0 v34 = some (kO 3 fs40) ∧ wp_X2_knotsOfHelpers G (fun r37 M38 =>
    post r37 M38) v34 M0))) ∧
  ((p1).toInt = 5 →
  (∃ fs41 v42, M0 p0 = some (kO 4 fs41) ∧ fs41[0]? = some (.ref v42) ∧
    (∃ fs48, M0 v42 = some (kO 3 fs48) ∧ wp_X2_foremost G (fun r45 M46 =>
    post r45 M46) v42 M0))) ∧
  ((p1).toInt = 6 →
  (∃ fs49 v50, M0 p0 = some (kO 4 fs49) ∧ fs49[5]? = some (.ref v50) ∧
    (∃ fs53 v54, M0 v50 = some (kO 1 fs53) ∧ fs53[2]? = some (.int v54) ∧
    post v54 M0))) ∧
  ((p1).toInt = 7 →
  (∃ fs57 v58, M0 p0 = some (kO 4 fs57) ∧ fs57[2]? = some (.int v58) ∧
    post v58 M0)) ∧
  ((p1).toInt < 0 ∨ 7 < (p1).toInt →
  post (-2 : Int32) M0))
theorem in_X3_count_X0 : ∀ w ∈ wsX00, w ∈ wsX3_count := by decide +kernel
theorem in_X3_count_X2 : ∀ w ∈ wsX20, w ∈ wsX3_count := by decide +kernel
theorem in_X3_count_X3 : ∀ w ∈ wsX30, w ∈ wsX3_count := by decide +kernel
set_option maxHeartbeats 4000000 in
set_option maxRecDepth 100000 in
theorem c_X3_count (l : Launch) (G : k_G) (M0 : k_M) (sz : Nat) (post : Int32 → k_M → Prop) (p0 : Nat) (p1 : Int32) (h : wp_X3_count G post p0 p1 M0) : Met l yX3_count wsX3_count ({ frames := 9, cells := 0, slots := 0, locals := 203 }) (va_Pc [.ref p0, .int p1] (kPre G M0 sz)) (va_Qi post (kB G M0 sz) (kA M0 sz)) 0 0 (kA M0 sz) := by
  refine Met.ofW (cc := cX3_count) (maxL := 2) (ret := (some .int)) (by decide) rfl ?_
  intro p e s m args below meth c s₁ B hml hv
  obtain ⟨rfl, hsz, hR, hE⟩ := hv
  have hx := B.exec
  have hb := B.bytes
  have hr := B.returns
  have hts := atoms_spec (ws := wsX3_count) B.pre
  have hown : s.vm.findClass RX3 = some m.cls := findClass_of_methodNamed B.named
  have hlocks := B.notSynchronized
  subst hsz
  have hK := hE.1
  have hA : ∀ q, s.heap.size ≤ q → kA M0 s.heap.size q := kA.new
  have hS : va_S (kA M0 s.heap.size) s.heap s.heap [] := va_S.rf
  have hw1 := hts (.fieldLink RX3 10 "ForkedStamps" "now" "LForkedStamps$State;") (by decide +kernel)
  have hw2 := hts (.fieldLink RX3 84 "ForkedStamps$State" "messageCount" "I") (by decide +kernel)
  have hw3 := hts (.fieldLink RX3 77 "ForkedStamps$State" "eventCount" "I") (by decide +kernel)
  have hw4 := hts (.fieldLink RX3 30 "ForkedStamps" "pad" "LForkedStamps$Pad;") (by decide +kernel)
  have hw5 := hts (.fieldLink RX3 161 "ForkedStamps$Pad" "length" "I") (by decide +kernel)
  have hw6 := hts (.fieldLink RX3 163 "ForkedStamps" "historyCount" "I") (by decide +kernel)
  have hl := lv_entry ([.ref p0, .int p1]) (n := 2) (Nat.le_of_ble_eq_true rfl)
  rw [lg_entry_eq]
  generalize (lg_sl ([.ref p0, .int p1]) ++ List.replicate (2 - (lg_sl ([.ref p0, .int p1])).length) Slot.unset).toArray = ls at hl ⊢
  have hl : lv_has ls 2 [(0, .ref p0), (1, .int p1)] := hl
  have hR0 := hR
  refine lv_iload_n hx hb dX3_count_0 rfl (lv_at hl 1 rfl) ?_
  have hsw := h
  obtain ⟨hs0, hs1, hs2, hs3, hs4, hs5, hs6, hs7, hs8⟩ := hsw
  by_cases hout : (p1).toInt < 0 ∨ 7 < (p1).toInt
  · refine lv_tableOut (tgt := 109) hx hb dX3_count_1 hout (by decide) ?_
    replace h := hs8 hout
    refine lv_bipush (v := (-2 : Int32)) hx hb dX3_count_109 (by decide) ?_
    exact k_reti hx hb hr hlocks rfl hR hS h dX3_count_111
  have hin : (p1).toInt = 0 ∨ (p1).toInt = 1 ∨ (p1).toInt = 2 ∨ (p1).toInt = 3 ∨ (p1).toInt = 4 ∨ (p1).toInt = 5 ∨ (p1).toInt = 6 ∨ (p1).toInt = 7 := by omega
  rcases hin with hk | hk | hk | hk | hk | hk | hk | hk
  · refine lv_tableIn (tgt := 48) (off := 47) hx hb dX3_count_1 (by omega) (by omega) (by rw [hk]; rfl) (by decide) ?_
    replace h := hs0 hk
    refine lv_aload_n hx hb dX3_count_48 rfl (lv_at hl 0 rfl) ?_
    obtain ⟨fs1, v2, hm3, hv4, h⟩ := h
    refine k_get (ci := 4) (C := RX3) (T := TX3) (N := 8) hx hb hts in_X3_count_X3 hown hK hR hm3 rfl 0 (by decide) hw1 (fun _ h9 => h9) hv4 dX3_count_49 ?_
    obtain ⟨fs8, hm7, h⟩ := h
    refine k_calli0 (va_runV (As := []) (rest := []) ⟨hx, hb, hml, hown, hts⟩ (c_X2_helperSet l G _ _ _ v2 h) (cwV 0 hts gX3_count_X2_helperSet rfl rfl rfl (by decide +kernel) ⟨Nat.le_of_ble_eq_true rfl, Nat.le_of_ble_eq_true rfl⟩) (k_preV (q := (RX2, TX2, 7)) hm7 rfl hR hS hA hE) rfl rfl hl.1 rfl (lv_room (Nat.le_of_ble_eq_true rfl)) dX3_count_52 ⟨Nat.zero_le _, Nat.zero_le _⟩) hR hS hA (fun r5 M6 H locs h hR hS => ?_)
    exact k_reti hx hb hr hlocks rfl hR hS h dX3_count_55
  · refine lv_tableIn (tgt := 56) (off := 55) hx hb dX3_count_1 (by omega) (by omega) (by rw [hk]; rfl) (by decide) ?_
    replace h := hs1 hk
    refine lv_aload_n hx hb dX3_count_56 rfl (lv_at hl 0 rfl) ?_
    obtain ⟨fs9, v10, hm11, hv12, h⟩ := h
    refine k_get (ci := 4) (C := RX3) (T := TX3) (N := 8) hx hb hts in_X3_count_X3 hown hK hR hm11 rfl 0 (by decide) hw1 (fun _ h9 => h9) hv12 dX3_count_57 ?_
    obtain ⟨fs13, v14, hm15, hv16, h⟩ := h
    refine k_get (ci := 3) (C := RX2) (T := TX2) (N := 7) hx hb hts in_X3_count_X2 hown hK hR hm15 rfl 4 (by decide) hw2 (fun _ h9 => h9) hv16 dX3_count_60 ?_
    exact k_reti hx hb hr hlocks rfl hR hS h dX3_count_63
  · refine lv_tableIn (tgt := 64) (off := 63) hx hb dX3_count_1 (by omega) (by omega) (by rw [hk]; rfl) (by decide) ?_
    replace h := hs2 hk
    refine lv_aload_n hx hb dX3_count_64 rfl (lv_at hl 0 rfl) ?_
    obtain ⟨fs17, v18, hm19, hv20, h⟩ := h
    refine k_get (ci := 4) (C := RX3) (T := TX3) (N := 8) hx hb hts in_X3_count_X3 hown hK hR hm19 rfl 0 (by decide) hw1 (fun _ h9 => h9) hv20 dX3_count_65 ?_
    obtain ⟨fs21, v22, hm23, hv24, h⟩ := h
    refine k_get (ci := 3) (C := RX2) (T := TX2) (N := 7) hx hb hts in_X3_count_X2 hown hK hR hm23 rfl 6 (by decide) hw3 (fun _ h9 => h9) hv24 dX3_count_68 ?_
    exact k_reti hx hb hr hlocks rfl hR hS h dX3_count_71
  · refine lv_tableIn (tgt := 72) (off := 71) hx hb dX3_count_1 (by omega) (by omega) (by rw [hk]; rfl) (by decide) ?_
    replace h := hs3 hk
    refine lv_aload_n hx hb dX3_count_72 rfl (lv_at hl 0 rfl) ?_
    obtain ⟨fs25, v26, hm27, hv28, h⟩ := h
    refine k_get (ci := 4) (C := RX3) (T := TX3) (N := 8) hx hb hts in_X3_count_X3 hown hK hR hm27 rfl 0 (by decide) hw1 (fun _ h9 => h9) hv28 dX3_count_73 ?_
    obtain ⟨fs32, hm31, h⟩ := h
    refine k_calli0 (va_runV (As := []) (rest := []) ⟨hx, hb, hml, hown, hts⟩ (c_X2_clashingPairs l G _ _ _ v26 h) (cwV 0 hts gX3_count_X2_clashingPairs rfl rfl rfl (by decide +kernel) ⟨Nat.le_of_ble_eq_true rfl, Nat.le_of_ble_eq_true rfl⟩) (k_preV (q := (RX2, TX2, 7)) hm31 rfl hR hS hA hE) rfl rfl hl.1 rfl (lv_room (Nat.le_of_ble_eq_true rfl)) dX3_count_76 ⟨Nat.zero_le _, Nat.zero_le _⟩) hR hS hA (fun r29 M30 H locs h hR hS => ?_)
    exact k_reti hx hb hr hlocks rfl hR hS h dX3_count_79
  · refine lv_tableIn (tgt := 80) (off := 79) hx hb dX3_count_1 (by omega) (by omega) (by rw [hk]; rfl) (by decide) ?_
    replace h := hs4 hk
    refine lv_aload_n hx hb dX3_count_80 rfl (lv_at hl 0 rfl) ?_
    obtain ⟨fs33, v34, hm35, hv36, h⟩ := h
    refine k_get (ci := 4) (C := RX3) (T := TX3) (N := 8) hx hb hts in_X3_count_X3 hown hK hR hm35 rfl 0 (by decide) hw1 (fun _ h9 => h9) hv36 dX3_count_81 ?_
    obtain ⟨fs40, hm39, h⟩ := h
    refine k_calli0 (va_runV (As := []) (rest := []) ⟨hx, hb, hml, hown, hts⟩ (c_X2_knotsOfHelpers l G _ _ _ v34 h) (cwV 0 hts gX3_count_X2_knotsOfHelpers rfl rfl rfl (by decide +kernel) ⟨Nat.le_of_ble_eq_true rfl, Nat.le_of_ble_eq_true rfl⟩) (k_preV (q := (RX2, TX2, 7)) hm39 rfl hR hS hA hE) rfl rfl hl.1 rfl (lv_room (Nat.le_of_ble_eq_true rfl)) dX3_count_84 ⟨Nat.zero_le _, Nat.zero_le _⟩) hR hS hA (fun r37 M38 H locs h hR hS => ?_)
    exact k_reti hx hb hr hlocks rfl hR hS h dX3_count_87
  · refine lv_tableIn (tgt := 88) (off := 87) hx hb dX3_count_1 (by omega) (by omega) (by rw [hk]; rfl) (by decide) ?_
    replace h := hs5 hk
    refine lv_aload_n hx hb dX3_count_88 rfl (lv_at hl 0 rfl) ?_
    obtain ⟨fs41, v42, hm43, hv44, h⟩ := h
    refine k_get (ci := 4) (C := RX3) (T := TX3) (N := 8) hx hb hts in_X3_count_X3 hown hK hR hm43 rfl 0 (by decide) hw1 (fun _ h9 => h9) hv44 dX3_count_89 ?_
    obtain ⟨fs48, hm47, h⟩ := h
    refine k_calli0 (va_runV (As := []) (rest := []) ⟨hx, hb, hml, hown, hts⟩ (c_X2_foremost l G _ _ _ v42 h) (cwV 0 hts gX3_count_X2_foremost rfl rfl rfl (by decide +kernel) ⟨Nat.le_of_ble_eq_true rfl, Nat.le_of_ble_eq_true rfl⟩) (k_preV (q := (RX2, TX2, 7)) hm47 rfl hR hS hA hE) rfl rfl hl.1 rfl (lv_room (Nat.le_of_ble_eq_true rfl)) dX3_count_92 ⟨Nat.zero_le _, Nat.zero_le _⟩) hR hS hA (fun r45 M46 H locs h hR hS => ?_)
    exact k_reti hx hb hr hlocks rfl hR hS h dX3_count_95
  · refine lv_tableIn (tgt := 96) (off := 95) hx hb dX3_count_1 (by omega) (by omega) (by rw [hk]; rfl) (by decide) ?_
    replace h := hs6 hk
    refine lv_aload_n hx hb dX3_count_96 rfl (lv_at hl 0 rfl) ?_
    obtain ⟨fs49, v50, hm51, hv52, h⟩ := h
    refine k_get (ci := 4) (C := RX3) (T := TX3) (N := 8) hx hb hts in_X3_count_X3 hown hK hR hm51 rfl 5 (by decide) hw4 (fun _ h9 => h9) hv52 dX3_count_97 ?_
    obtain ⟨fs53, v54, hm55, hv56, h⟩ := h
    refine k_get (ci := 1) (C := RX0) (T := TX0) (N := 7) hx hb hts in_X3_count_X0 hown hK hR hm55 rfl 2 (by decide) hw5 (fun _ h9 => h9) hv56 dX3_count_100 ?_
    exact k_reti hx hb hr hlocks rfl hR hS h dX3_count_103
  · refine lv_tableIn (tgt := 104) (off := 103) hx hb dX3_count_1 (by omega) (by omega) (by rw [hk]; rfl) (by decide) ?_
    replace h := hs7 hk
    refine lv_aload_n hx hb dX3_count_104 rfl (lv_at hl 0 rfl) ?_
    obtain ⟨fs57, v58, hm59, hv60, h⟩ := h
    refine k_get (ci := 4) (C := RX3) (T := TX3) (N := 8) hx hb hts in_X3_count_X3 hown hK hR hm59 rfl 2 (by decide) hw6 (fun _ h9 => h9) hv60 dX3_count_105 ?_
    exact k_reti hx hb hr hlocks rfl hR hS h dX3_count_108

def wp_X3_whose (G : k_G) (post : Int32 → k_M → Prop) (p0 : Nat) (p1 : Int32) (M0 : k_M) : Prop :=
  (∃ fs1 v2, M0 p0 = some (kO 4 fs1) ∧ fs1[0]? = some (.ref v2) ∧
  (∃ fs8, M0 v2 = some (kO 3 fs8) ∧ wp_X2_isEvent G (fun r5 M6 =>
  ((r5 = 0 →
  post (-1 : Int32) M6) ∧
  (¬ r5 = 0 →
  (∃ fs9 v10, M6 p0 = some (kO 4 fs9) ∧ fs9[0]? = some (.ref v10) ∧
    (∃ fs13 v14, M6 v10 = some (kO 3 fs13) ∧ fs13[5]? = some (.ref v14) ∧
    (∃ n17 f18, M6 v14 = some (kI G n17 f18) ∧ vp_in p1 n17 ∧
    post (f18 (p1).toNatClampNeg) M6)))))) v2 p1 M0))
theorem in_X3_whose_X2 : ∀ w ∈ wsX20, w ∈ wsX3_whose := by decide +kernel
theorem in_X3_whose_X3 : ∀ w ∈ wsX30, w ∈ wsX3_whose := by decide +kernel
set_option maxHeartbeats 4000000 in
set_option maxRecDepth 100000 in
theorem c_X3_whose (l : Launch) (G : k_G) (M0 : k_M) (sz : Nat) (post : Int32 → k_M → Prop) (p0 : Nat) (p1 : Int32) (h : wp_X3_whose G post p0 p1 M0) : Met l yX3_whose wsX3_whose ({ frames := 1, cells := 0, slots := 0, locals := 21 }) (va_Pc [.ref p0, .int p1] (kPre G M0 sz)) (va_Qi post (kB G M0 sz) (kA M0 sz)) 0 0 (kA M0 sz) := by
  refine Met.ofW (cc := cX3_whose) (maxL := 2) (ret := (some .int)) (by decide) rfl ?_
  intro p e s m args below meth c s₁ B hml hv
  obtain ⟨rfl, hsz, hR, hE⟩ := hv
  have hx := B.exec
  have hb := B.bytes
  have hr := B.returns
  have hts := atoms_spec (ws := wsX3_whose) B.pre
  have hown : s.vm.findClass RX3 = some m.cls := findClass_of_methodNamed B.named
  have hlocks := B.notSynchronized
  subst hsz
  have hK := hE.1
  have hA : ∀ q, s.heap.size ≤ q → kA M0 s.heap.size q := kA.new
  have hS : va_S (kA M0 s.heap.size) s.heap s.heap [] := va_S.rf
  have hw1 := hts (.fieldLink RX3 10 "ForkedStamps" "now" "LForkedStamps$State;") (by decide +kernel)
  have hw2 := hts (.fieldLink RX3 166 "ForkedStamps$State" "actors" "[I") (by decide +kernel)
  have hl := lv_entry ([.ref p0, .int p1]) (n := 2) (Nat.le_of_ble_eq_true rfl)
  rw [lg_entry_eq]
  generalize (lg_sl ([.ref p0, .int p1]) ++ List.replicate (2 - (lg_sl ([.ref p0, .int p1])).length) Slot.unset).toArray = ls at hl ⊢
  have hl : lv_has ls 2 [(0, .ref p0), (1, .int p1)] := hl
  have hR0 := hR
  refine lv_aload_n hx hb dX3_whose_0 rfl (lv_at hl 0 rfl) ?_
  obtain ⟨fs1, v2, hm3, hv4, h⟩ := h
  refine k_get (ci := 4) (C := RX3) (T := TX3) (N := 8) hx hb hts in_X3_whose_X3 hown hK hR hm3 rfl 0 (by decide) hw1 (fun _ h9 => h9) hv4 dX3_whose_1 ?_
  refine lv_iload_n hx hb dX3_whose_4 rfl (lv_at hl 1 rfl) ?_
  obtain ⟨fs8, hm7, h⟩ := h
  refine k_calli0 (va_runV (As := [.int p1]) (rest := []) ⟨hx, hb, hml, hown, hts⟩ (c_X2_isEvent l G _ _ _ v2 p1 h) (cwV 1 hts gX3_whose_X2_isEvent rfl rfl rfl (by decide +kernel) ⟨Nat.le_of_ble_eq_true rfl, Nat.le_of_ble_eq_true rfl⟩) (k_preV (q := (RX2, TX2, 7)) hm7 rfl hR hS hA hE) rfl rfl hl.1 rfl (lv_room (Nat.le_of_ble_eq_true rfl)) dX3_whose_5 ⟨Nat.zero_le _, Nat.zero_le _⟩) hR hS hA (fun r5 M6 H locs h hR hS => ?_)
  obtain ⟨ha, hb2⟩ := h
  refine lv_if_eq (tgt := 23) hx hb dX3_whose_8 (by decide) (fun hc => ?_) (fun hc => ?_)
  · replace h := ha hc
    refine lv_iconst (v := (-1 : Int32)) hx hb dX3_whose_23 (by decide) ?_
    exact k_reti hx hb hr hlocks rfl hR hS h dX3_whose_24
  · replace h := hb2 hc
    refine lv_aload_n hx hb dX3_whose_11 rfl (lv_at hl 0 rfl) ?_
    obtain ⟨fs9, v10, hm11, hv12, h⟩ := h
    refine k_get (ci := 4) (C := RX3) (T := TX3) (N := 8) hx hb hts in_X3_whose_X3 hown hK hR hm11 rfl 0 (by decide) hw1 (fun _ h9 => h9) hv12 dX3_whose_12 ?_
    obtain ⟨fs13, v14, hm15, hv16, h⟩ := h
    refine k_get (ci := 3) (C := RX2) (T := TX2) (N := 7) hx hb hts in_X3_whose_X2 hown hK hR hm15 rfl 5 (by decide) hw2 (fun _ h9 => h9) hv16 dX3_whose_15 ?_
    refine lv_iload_n hx hb dX3_whose_18 rfl (lv_at hl 1 rfl) ?_
    obtain ⟨n17, f18, hm19, hv20, h⟩ := h
    refine k_iald hx hb hK hR hm19 hv20 dX3_whose_19 ?_
    refine lv_goto (tgt := 24) hx hb dX3_whose_20 (by decide) ?_
    exact k_reti hx hb hr hlocks rfl hR hS h dX3_whose_24

def wp_X3_order (G : k_G) (post : Int32 → k_M → Prop) (p0 : Nat) (p1 : Int32) (p2 : Int32) (p3 : Int32) (p4 : Int32) (M0 : k_M) : Prop :=
  wp_X3_isKind G (fun r1 M2 =>
  ((r1 = 0 →
  post (-2 : Int32) M2) ∧
  (¬ r1 = 0 →
  wp_X3_isKind G (fun r4 M5 =>
    ((¬ r4 = 0 →
    (∃ fs7 v8, M5 p0 = some (kO 4 fs7) ∧ fs7[0]? = some (.ref v8) ∧
      (∃ fs14, M5 v8 = some (kO 3 fs14) ∧ wp_X2_stampOf G (fun r11 M12 => (r11 = none →
      (∃ fs16 v17, M12 p0 = some (kO 4 fs16) ∧ fs16[0]? = some (.ref v17) ∧
        (∃ fs23, M12 v17 = some (kO 3 fs23) ∧ wp_X2_stampOf G (fun r20 M21 => (r20 = none →
        post (-1 : Int32) M21) ∧ (∀ v24, r20 = some v24 →
        post (-1 : Int32) M21)) v17 p3 p4 M12))) ∧ (∀ v15, r11 = some v15 →
      (∃ fs25 v26, M12 p0 = some (kO 4 fs25) ∧ fs25[0]? = some (.ref v26) ∧
        (∃ fs32, M12 v26 = some (kO 3 fs32) ∧ wp_X2_stampOf G (fun r29 M30 => (r29 = none →
        post (-1 : Int32) M30) ∧ (∀ v33, r29 = some v33 →
        (∃ fs37, M30 v15 = some (kO 2 fs37) ∧ wp_X1_orderTo G (fun r34 M35 =>
          post r34 M35) v15 v33 M30))) v26 p3 p4 M12)))) v8 p1 p2 M5))) ∧
    (r4 = 0 →
    post (-2 : Int32) M5))) p3 M2))) p1 M0
theorem in_X3_order_X3 : ∀ w ∈ wsX30, w ∈ wsX3_order := by decide +kernel
set_option maxHeartbeats 4000000 in
set_option maxRecDepth 100000 in
theorem c_X3_order (l : Launch) (G : k_G) (M0 : k_M) (sz : Nat) (post : Int32 → k_M → Prop) (p0 : Nat) (p1 : Int32) (p2 : Int32) (p3 : Int32) (p4 : Int32) (h : wp_X3_order G post p0 p1 p2 p3 p4 M0) : Met l yX3_order wsX3_order ({ frames := 2, cells := 0, slots := 0, locals := 43 }) (va_Pc [.ref p0, .int p1, .int p2, .int p3, .int p4] (kPre G M0 sz)) (va_Qi post (kB G M0 sz) (kA M0 sz)) 0 0 (kA M0 sz) := by
  refine Met.ofW (cc := cX3_order) (maxL := 7) (ret := (some .int)) (by decide) rfl ?_
  intro p e s m args below meth c s₁ B hml hv
  obtain ⟨rfl, hsz, hR, hE⟩ := hv
  have hx := B.exec
  have hb := B.bytes
  have hr := B.returns
  have hts := atoms_spec (ws := wsX3_order) B.pre
  have hown : s.vm.findClass RX3 = some m.cls := findClass_of_methodNamed B.named
  have hlocks := B.notSynchronized
  subst hsz
  have hK := hE.1
  have hA : ∀ q, s.heap.size ≤ q → kA M0 s.heap.size q := kA.new
  have hS : va_S (kA M0 s.heap.size) s.heap s.heap [] := va_S.rf
  have hw1 := hts (.fieldLink RX3 10 "ForkedStamps" "now" "LForkedStamps$State;") (by decide +kernel)
  have hl := lv_entry ([.ref p0, .int p1, .int p2, .int p3, .int p4]) (n := 7) (Nat.le_of_ble_eq_true rfl)
  rw [lg_entry_eq]
  generalize (lg_sl ([.ref p0, .int p1, .int p2, .int p3, .int p4]) ++ List.replicate (7 - (lg_sl ([.ref p0, .int p1, .int p2, .int p3, .int p4])).length) Slot.unset).toArray = ls at hl ⊢
  have hl : lv_has ls 7 [(0, .ref p0), (1, .int p1), (2, .int p2), (3, .int p3), (4, .int p4)] := hl
  have hR0 := hR
  refine lv_iload_n hx hb dX3_order_0 rfl (lv_at hl 1 rfl) ?_
  refine k_calli0 (va_runS (As := [.int p1]) (rest := []) ⟨hx, hb, hml, hown, hts⟩ (c_X3_isKind l G _ _ _ p1 h) (va_cwS 1 hts gX3_order_X3_isKind rfl rfl rfl (by decide +kernel) ⟨Nat.le_of_ble_eq_true rfl, Nat.le_of_ble_eq_true rfl⟩) (k_preS hR hS hA hE) rfl rfl hl.1 rfl (lv_room (Nat.le_of_ble_eq_true rfl)) dX3_order_1 ⟨Nat.zero_le _, Nat.zero_le _⟩) hR hS hA (fun r1 M2 H locs h hR hS => ?_)
  obtain ⟨ha, hb2⟩ := h
  refine lv_if_eq (tgt := 14) hx hb dX3_order_4 (by decide) (fun hc => ?_) (fun hc => ?_)
  · replace h := ha hc
    refine lv_bipush (v := (-2 : Int32)) hx hb dX3_order_14 (by decide) ?_
    exact k_reti hx hb hr hlocks rfl hR hS h dX3_order_16
  · replace h := hb2 hc
    refine lv_iload_n hx hb dX3_order_7 rfl (lv_at hl 3 rfl) ?_
    refine k_calli0 (va_runS (As := [.int p3]) (rest := []) ⟨hx, hb, hml, hown, hts⟩ (c_X3_isKind l G _ _ _ p3 h) (va_cwS 1 hts gX3_order_X3_isKind rfl rfl rfl (by decide +kernel) ⟨Nat.le_of_ble_eq_true rfl, Nat.le_of_ble_eq_true rfl⟩) (k_preS hR hS hA hE) rfl rfl hl.1 rfl (lv_room (Nat.le_of_ble_eq_true rfl)) dX3_order_8 ⟨Nat.zero_le _, Nat.zero_le _⟩) hR hS hA (fun r4 M5 H locs h hR hS => ?_)
    obtain ⟨ha, hb2⟩ := h
    refine lv_if_ne (tgt := 17) hx hb dX3_order_11 (by decide) (fun hc => ?_) (fun hc => ?_)
    · replace h := ha hc
      refine lv_aload_n hx hb dX3_order_17 rfl (lv_at hl 0 rfl) ?_
      obtain ⟨fs7, v8, hm9, hv10, h⟩ := h
      refine k_get (ci := 4) (C := RX3) (T := TX3) (N := 8) hx hb hts in_X3_order_X3 hown hK hR hm9 rfl 0 (by decide) hw1 (fun _ h9 => h9) hv10 dX3_order_18 ?_
      refine lv_iload_n hx hb dX3_order_21 rfl (lv_at hl 1 rfl) ?_
      refine lv_iload_n hx hb dX3_order_22 rfl (lv_at hl 2 rfl) ?_
      obtain ⟨fs14, hm13, h⟩ := h
      refine k_callq0 (va_runV (As := [.int p1, .int p2]) (rest := []) ⟨hx, hb, hml, hown, hts⟩ (c_X2_stampOf l G _ _ _ v8 p1 p2 h) (cwV 2 hts gX3_order_X2_stampOf rfl rfl rfl (by decide +kernel) ⟨Nat.le_of_ble_eq_true rfl, Nat.le_of_ble_eq_true rfl⟩) (k_preV (q := (RX2, TX2, 7)) hm13 rfl hR hS hA hE) rfl rfl hl.1 rfl (lv_room (Nat.le_of_ble_eq_true rfl)) dX3_order_23 ⟨Nat.zero_le _, Nat.zero_le _⟩) hR hS hA (fun r11 M12 H locs h hR hS => ?_)
      obtain ⟨ha, hb2⟩ := h
      rcases r11 with _ | v15
      · replace h := ha rfl
        refine lv_astoreN (lv' := [(5, .null), (0, .ref p0), (1, .int p1), (2, .int p2), (3, .int p3), (4, .int p4)]) hx hb dX3_order_26 hl (by decide) rfl (fun ls hl => ?_)
        refine lv_aload_n hx hb dX3_order_28 rfl (lv_at hl 1 rfl) ?_
        obtain ⟨fs16, v17, hm18, hv19, h⟩ := h
        refine k_get (ci := 4) (C := RX3) (T := TX3) (N := 8) hx hb hts in_X3_order_X3 hown hK hR hm18 rfl 0 (by decide) hw1 (fun _ h9 => h9) hv19 dX3_order_29 ?_
        refine lv_iload_n hx hb dX3_order_32 rfl (lv_at hl 4 rfl) ?_
        refine lv_iload hx hb dX3_order_33 (lv_at hl 5 rfl) ?_
        obtain ⟨fs23, hm22, h⟩ := h
        refine k_callq0 (va_runV (As := [.int p3, .int p4]) (rest := []) ⟨hx, hb, hml, hown, hts⟩ (c_X2_stampOf l G _ _ _ v17 p3 p4 h) (cwV 2 hts gX3_order_X2_stampOf rfl rfl rfl (by decide +kernel) ⟨Nat.le_of_ble_eq_true rfl, Nat.le_of_ble_eq_true rfl⟩) (k_preV (q := (RX2, TX2, 7)) hm22 rfl hR hS hA hE) rfl rfl hl.1 rfl (lv_room (Nat.le_of_ble_eq_true rfl)) dX3_order_35 ⟨Nat.zero_le _, Nat.zero_le _⟩) hR hS hA (fun r20 M21 H locs h hR hS => ?_)
        obtain ⟨ha, hb2⟩ := h
        rcases r20 with _ | v24
        · replace h := ha rfl
          refine lv_astoreN (lv' := [(6, .null), (5, .null), (0, .ref p0), (1, .int p1), (2, .int p2), (3, .int p3), (4, .int p4)]) hx hb dX3_order_38 hl (by decide) rfl (fun ls hl => ?_)
          refine lv_aloadN hx hb dX3_order_40 (lv_at hl 1 rfl) ?_
          refine lv_ifnullN (tgt := 50) hx hb dX3_order_42 (by decide) ?_
          refine lv_iconst (v := (-1 : Int32)) hx hb dX3_order_50 (by decide) ?_
          exact k_reti hx hb hr hlocks rfl hR hS h dX3_order_51
        · replace h := hb2 v24 rfl
          refine lv_astore (lv' := [(6, .ref v24), (5, .null), (0, .ref p0), (1, .int p1), (2, .int p2), (3, .int p3), (4, .int p4)]) hx hb dX3_order_38 hl (by decide) rfl (fun ls hl => ?_)
          refine lv_aloadN hx hb dX3_order_40 (lv_at hl 1 rfl) ?_
          refine lv_ifnullN (tgt := 50) hx hb dX3_order_42 (by decide) ?_
          refine lv_iconst (v := (-1 : Int32)) hx hb dX3_order_50 (by decide) ?_
          exact k_reti hx hb hr hlocks rfl hR hS h dX3_order_51
      · replace h := hb2 v15 rfl
        refine lv_astore (lv' := [(5, .ref v15), (0, .ref p0), (1, .int p1), (2, .int p2), (3, .int p3), (4, .int p4)]) hx hb dX3_order_26 hl (by decide) rfl (fun ls hl => ?_)
        refine lv_aload_n hx hb dX3_order_28 rfl (lv_at hl 1 rfl) ?_
        obtain ⟨fs25, v26, hm27, hv28, h⟩ := h
        refine k_get (ci := 4) (C := RX3) (T := TX3) (N := 8) hx hb hts in_X3_order_X3 hown hK hR hm27 rfl 0 (by decide) hw1 (fun _ h9 => h9) hv28 dX3_order_29 ?_
        refine lv_iload_n hx hb dX3_order_32 rfl (lv_at hl 4 rfl) ?_
        refine lv_iload hx hb dX3_order_33 (lv_at hl 5 rfl) ?_
        obtain ⟨fs32, hm31, h⟩ := h
        refine k_callq0 (va_runV (As := [.int p3, .int p4]) (rest := []) ⟨hx, hb, hml, hown, hts⟩ (c_X2_stampOf l G _ _ _ v26 p3 p4 h) (cwV 2 hts gX3_order_X2_stampOf rfl rfl rfl (by decide +kernel) ⟨Nat.le_of_ble_eq_true rfl, Nat.le_of_ble_eq_true rfl⟩) (k_preV (q := (RX2, TX2, 7)) hm31 rfl hR hS hA hE) rfl rfl hl.1 rfl (lv_room (Nat.le_of_ble_eq_true rfl)) dX3_order_35 ⟨Nat.zero_le _, Nat.zero_le _⟩) hR hS hA (fun r29 M30 H locs h hR hS => ?_)
        obtain ⟨ha, hb2⟩ := h
        rcases r29 with _ | v33
        · replace h := ha rfl
          refine lv_astoreN (lv' := [(6, .null), (5, .ref v15), (0, .ref p0), (1, .int p1), (2, .int p2), (3, .int p3), (4, .int p4)]) hx hb dX3_order_38 hl (by decide) rfl (fun ls hl => ?_)
          refine lv_aload hx hb dX3_order_40 (lv_at hl 1 rfl) ?_
          refine lv_ifnull hx hb dX3_order_42 ?_
          refine lv_aloadN hx hb dX3_order_45 (lv_at hl 0 rfl) ?_
          refine lv_ifnonnullN hx hb dX3_order_47 ?_
          refine lv_iconst (v := (-1 : Int32)) hx hb dX3_order_50 (by decide) ?_
          exact k_reti hx hb hr hlocks rfl hR hS h dX3_order_51
        · replace h := hb2 v33 rfl
          refine lv_astore (lv' := [(6, .ref v33), (5, .ref v15), (0, .ref p0), (1, .int p1), (2, .int p2), (3, .int p3), (4, .int p4)]) hx hb dX3_order_38 hl (by decide) rfl (fun ls hl => ?_)
          refine lv_aload hx hb dX3_order_40 (lv_at hl 1 rfl) ?_
          refine lv_ifnull hx hb dX3_order_42 ?_
          refine lv_aload hx hb dX3_order_45 (lv_at hl 0 rfl) ?_
          refine lv_ifnonnull (tgt := 52) hx hb dX3_order_47 (by decide) ?_
          refine lv_aload hx hb dX3_order_52 (lv_at hl 1 rfl) ?_
          refine lv_aload hx hb dX3_order_54 (lv_at hl 0 rfl) ?_
          obtain ⟨fs37, hm36, h⟩ := h
          refine k_calli0 (va_runV (As := [.ref v33]) (rest := []) ⟨hx, hb, hml, hown, hts⟩ (c_X1_orderTo l G _ _ _ v15 v33 h) (cwV 1 hts gX3_order_X1_orderTo rfl rfl rfl (by decide +kernel) ⟨Nat.le_of_ble_eq_true rfl, Nat.le_of_ble_eq_true rfl⟩) (k_preV (q := (RX1, TX1, 3)) hm36 rfl hR hS hA hE) rfl rfl hl.1 rfl (lv_room (Nat.le_of_ble_eq_true rfl)) dX3_order_56 ⟨Nat.zero_le _, Nat.zero_le _⟩) hR hS hA (fun r34 M35 H locs h hR hS => ?_)
          exact k_reti hx hb hr hlocks rfl hR hS h dX3_order_59
    · replace h := hb2 hc
      refine lv_bipush (v := (-2 : Int32)) hx hb dX3_order_14 (by decide) ?_
      exact k_reti hx hb hr hlocks rfl hR hS h dX3_order_16

def wp_X3_more (G : k_G) (post : Int32 → k_M → Prop) (p0 : Nat) (p1 : Int32) (p2 : Int32) (p3 : Int32) (p4 : Int32) (M0 : k_M) : Prop :=
  wp_X3_isKind G (fun r1 M2 =>
  ((r1 = 0 →
  post (-2 : Int32) M2) ∧
  (¬ r1 = 0 →
  wp_X3_isKind G (fun r4 M5 =>
    ((¬ r4 = 0 →
    (∃ fs7 v8, M5 p0 = some (kO 4 fs7) ∧ fs7[0]? = some (.ref v8) ∧
      (∃ fs14, M5 v8 = some (kO 3 fs14) ∧ wp_X2_stampOf G (fun r11 M12 => (r11 = none →
      (∃ fs16 v17, M12 p0 = some (kO 4 fs16) ∧ fs16[0]? = some (.ref v17) ∧
        (∃ fs23, M12 v17 = some (kO 3 fs23) ∧ wp_X2_stampOf G (fun r20 M21 => (r20 = none →
        post (-1 : Int32) M21) ∧ (∀ v24, r20 = some v24 →
        post (-1 : Int32) M21)) v17 p3 p4 M12))) ∧ (∀ v15, r11 = some v15 →
      (∃ fs25 v26, M12 p0 = some (kO 4 fs25) ∧ fs25[0]? = some (.ref v26) ∧
        (∃ fs32, M12 v26 = some (kO 3 fs32) ∧ wp_X2_stampOf G (fun r29 M30 => (r29 = none →
        post (-1 : Int32) M30) ∧ (∀ v33, r29 = some v33 →
        (∃ fs37, M30 v15 = some (kO 2 fs37) ∧ wp_X1_knownBeyond G (fun r34 M35 =>
          post r34 M35) v15 v33 M30))) v26 p3 p4 M12)))) v8 p1 p2 M5))) ∧
    (r4 = 0 →
    post (-2 : Int32) M5))) p3 M2))) p1 M0
theorem in_X3_more_X3 : ∀ w ∈ wsX30, w ∈ wsX3_more := by decide +kernel
set_option maxHeartbeats 4000000 in
set_option maxRecDepth 100000 in
theorem c_X3_more (l : Launch) (G : k_G) (M0 : k_M) (sz : Nat) (post : Int32 → k_M → Prop) (p0 : Nat) (p1 : Int32) (p2 : Int32) (p3 : Int32) (p4 : Int32) (h : wp_X3_more G post p0 p1 p2 p3 p4 M0) : Met l yX3_more wsX3_more ({ frames := 2, cells := 0, slots := 0, locals := 43 }) (va_Pc [.ref p0, .int p1, .int p2, .int p3, .int p4] (kPre G M0 sz)) (va_Qi post (kB G M0 sz) (kA M0 sz)) 0 0 (kA M0 sz) := by
  refine Met.ofW (cc := cX3_more) (maxL := 7) (ret := (some .int)) (by decide) rfl ?_
  intro p e s m args below meth c s₁ B hml hv
  obtain ⟨rfl, hsz, hR, hE⟩ := hv
  have hx := B.exec
  have hb := B.bytes
  have hr := B.returns
  have hts := atoms_spec (ws := wsX3_more) B.pre
  have hown : s.vm.findClass RX3 = some m.cls := findClass_of_methodNamed B.named
  have hlocks := B.notSynchronized
  subst hsz
  have hK := hE.1
  have hA : ∀ q, s.heap.size ≤ q → kA M0 s.heap.size q := kA.new
  have hS : va_S (kA M0 s.heap.size) s.heap s.heap [] := va_S.rf
  have hw1 := hts (.fieldLink RX3 10 "ForkedStamps" "now" "LForkedStamps$State;") (by decide +kernel)
  have hl := lv_entry ([.ref p0, .int p1, .int p2, .int p3, .int p4]) (n := 7) (Nat.le_of_ble_eq_true rfl)
  rw [lg_entry_eq]
  generalize (lg_sl ([.ref p0, .int p1, .int p2, .int p3, .int p4]) ++ List.replicate (7 - (lg_sl ([.ref p0, .int p1, .int p2, .int p3, .int p4])).length) Slot.unset).toArray = ls at hl ⊢
  have hl : lv_has ls 7 [(0, .ref p0), (1, .int p1), (2, .int p2), (3, .int p3), (4, .int p4)] := hl
  have hR0 := hR
  refine lv_iload_n hx hb dX3_more_0 rfl (lv_at hl 1 rfl) ?_
  refine k_calli0 (va_runS (As := [.int p1]) (rest := []) ⟨hx, hb, hml, hown, hts⟩ (c_X3_isKind l G _ _ _ p1 h) (va_cwS 1 hts gX3_more_X3_isKind rfl rfl rfl (by decide +kernel) ⟨Nat.le_of_ble_eq_true rfl, Nat.le_of_ble_eq_true rfl⟩) (k_preS hR hS hA hE) rfl rfl hl.1 rfl (lv_room (Nat.le_of_ble_eq_true rfl)) dX3_more_1 ⟨Nat.zero_le _, Nat.zero_le _⟩) hR hS hA (fun r1 M2 H locs h hR hS => ?_)
  obtain ⟨ha, hb2⟩ := h
  refine lv_if_eq (tgt := 14) hx hb dX3_more_4 (by decide) (fun hc => ?_) (fun hc => ?_)
  · replace h := ha hc
    refine lv_bipush (v := (-2 : Int32)) hx hb dX3_more_14 (by decide) ?_
    exact k_reti hx hb hr hlocks rfl hR hS h dX3_more_16
  · replace h := hb2 hc
    refine lv_iload_n hx hb dX3_more_7 rfl (lv_at hl 3 rfl) ?_
    refine k_calli0 (va_runS (As := [.int p3]) (rest := []) ⟨hx, hb, hml, hown, hts⟩ (c_X3_isKind l G _ _ _ p3 h) (va_cwS 1 hts gX3_more_X3_isKind rfl rfl rfl (by decide +kernel) ⟨Nat.le_of_ble_eq_true rfl, Nat.le_of_ble_eq_true rfl⟩) (k_preS hR hS hA hE) rfl rfl hl.1 rfl (lv_room (Nat.le_of_ble_eq_true rfl)) dX3_more_8 ⟨Nat.zero_le _, Nat.zero_le _⟩) hR hS hA (fun r4 M5 H locs h hR hS => ?_)
    obtain ⟨ha, hb2⟩ := h
    refine lv_if_ne (tgt := 17) hx hb dX3_more_11 (by decide) (fun hc => ?_) (fun hc => ?_)
    · replace h := ha hc
      refine lv_aload_n hx hb dX3_more_17 rfl (lv_at hl 0 rfl) ?_
      obtain ⟨fs7, v8, hm9, hv10, h⟩ := h
      refine k_get (ci := 4) (C := RX3) (T := TX3) (N := 8) hx hb hts in_X3_more_X3 hown hK hR hm9 rfl 0 (by decide) hw1 (fun _ h9 => h9) hv10 dX3_more_18 ?_
      refine lv_iload_n hx hb dX3_more_21 rfl (lv_at hl 1 rfl) ?_
      refine lv_iload_n hx hb dX3_more_22 rfl (lv_at hl 2 rfl) ?_
      obtain ⟨fs14, hm13, h⟩ := h
      refine k_callq0 (va_runV (As := [.int p1, .int p2]) (rest := []) ⟨hx, hb, hml, hown, hts⟩ (c_X2_stampOf l G _ _ _ v8 p1 p2 h) (cwV 2 hts gX3_more_X2_stampOf rfl rfl rfl (by decide +kernel) ⟨Nat.le_of_ble_eq_true rfl, Nat.le_of_ble_eq_true rfl⟩) (k_preV (q := (RX2, TX2, 7)) hm13 rfl hR hS hA hE) rfl rfl hl.1 rfl (lv_room (Nat.le_of_ble_eq_true rfl)) dX3_more_23 ⟨Nat.zero_le _, Nat.zero_le _⟩) hR hS hA (fun r11 M12 H locs h hR hS => ?_)
      obtain ⟨ha, hb2⟩ := h
      rcases r11 with _ | v15
      · replace h := ha rfl
        refine lv_astoreN (lv' := [(5, .null), (0, .ref p0), (1, .int p1), (2, .int p2), (3, .int p3), (4, .int p4)]) hx hb dX3_more_26 hl (by decide) rfl (fun ls hl => ?_)
        refine lv_aload_n hx hb dX3_more_28 rfl (lv_at hl 1 rfl) ?_
        obtain ⟨fs16, v17, hm18, hv19, h⟩ := h
        refine k_get (ci := 4) (C := RX3) (T := TX3) (N := 8) hx hb hts in_X3_more_X3 hown hK hR hm18 rfl 0 (by decide) hw1 (fun _ h9 => h9) hv19 dX3_more_29 ?_
        refine lv_iload_n hx hb dX3_more_32 rfl (lv_at hl 4 rfl) ?_
        refine lv_iload hx hb dX3_more_33 (lv_at hl 5 rfl) ?_
        obtain ⟨fs23, hm22, h⟩ := h
        refine k_callq0 (va_runV (As := [.int p3, .int p4]) (rest := []) ⟨hx, hb, hml, hown, hts⟩ (c_X2_stampOf l G _ _ _ v17 p3 p4 h) (cwV 2 hts gX3_more_X2_stampOf rfl rfl rfl (by decide +kernel) ⟨Nat.le_of_ble_eq_true rfl, Nat.le_of_ble_eq_true rfl⟩) (k_preV (q := (RX2, TX2, 7)) hm22 rfl hR hS hA hE) rfl rfl hl.1 rfl (lv_room (Nat.le_of_ble_eq_true rfl)) dX3_more_35 ⟨Nat.zero_le _, Nat.zero_le _⟩) hR hS hA (fun r20 M21 H locs h hR hS => ?_)
        obtain ⟨ha, hb2⟩ := h
        rcases r20 with _ | v24
        · replace h := ha rfl
          refine lv_astoreN (lv' := [(6, .null), (5, .null), (0, .ref p0), (1, .int p1), (2, .int p2), (3, .int p3), (4, .int p4)]) hx hb dX3_more_38 hl (by decide) rfl (fun ls hl => ?_)
          refine lv_aloadN hx hb dX3_more_40 (lv_at hl 1 rfl) ?_
          refine lv_ifnullN (tgt := 50) hx hb dX3_more_42 (by decide) ?_
          refine lv_iconst (v := (-1 : Int32)) hx hb dX3_more_50 (by decide) ?_
          exact k_reti hx hb hr hlocks rfl hR hS h dX3_more_51
        · replace h := hb2 v24 rfl
          refine lv_astore (lv' := [(6, .ref v24), (5, .null), (0, .ref p0), (1, .int p1), (2, .int p2), (3, .int p3), (4, .int p4)]) hx hb dX3_more_38 hl (by decide) rfl (fun ls hl => ?_)
          refine lv_aloadN hx hb dX3_more_40 (lv_at hl 1 rfl) ?_
          refine lv_ifnullN (tgt := 50) hx hb dX3_more_42 (by decide) ?_
          refine lv_iconst (v := (-1 : Int32)) hx hb dX3_more_50 (by decide) ?_
          exact k_reti hx hb hr hlocks rfl hR hS h dX3_more_51
      · replace h := hb2 v15 rfl
        refine lv_astore (lv' := [(5, .ref v15), (0, .ref p0), (1, .int p1), (2, .int p2), (3, .int p3), (4, .int p4)]) hx hb dX3_more_26 hl (by decide) rfl (fun ls hl => ?_)
        refine lv_aload_n hx hb dX3_more_28 rfl (lv_at hl 1 rfl) ?_
        obtain ⟨fs25, v26, hm27, hv28, h⟩ := h
        refine k_get (ci := 4) (C := RX3) (T := TX3) (N := 8) hx hb hts in_X3_more_X3 hown hK hR hm27 rfl 0 (by decide) hw1 (fun _ h9 => h9) hv28 dX3_more_29 ?_
        refine lv_iload_n hx hb dX3_more_32 rfl (lv_at hl 4 rfl) ?_
        refine lv_iload hx hb dX3_more_33 (lv_at hl 5 rfl) ?_
        obtain ⟨fs32, hm31, h⟩ := h
        refine k_callq0 (va_runV (As := [.int p3, .int p4]) (rest := []) ⟨hx, hb, hml, hown, hts⟩ (c_X2_stampOf l G _ _ _ v26 p3 p4 h) (cwV 2 hts gX3_more_X2_stampOf rfl rfl rfl (by decide +kernel) ⟨Nat.le_of_ble_eq_true rfl, Nat.le_of_ble_eq_true rfl⟩) (k_preV (q := (RX2, TX2, 7)) hm31 rfl hR hS hA hE) rfl rfl hl.1 rfl (lv_room (Nat.le_of_ble_eq_true rfl)) dX3_more_35 ⟨Nat.zero_le _, Nat.zero_le _⟩) hR hS hA (fun r29 M30 H locs h hR hS => ?_)
        obtain ⟨ha, hb2⟩ := h
        rcases r29 with _ | v33
        · replace h := ha rfl
          refine lv_astoreN (lv' := [(6, .null), (5, .ref v15), (0, .ref p0), (1, .int p1), (2, .int p2), (3, .int p3), (4, .int p4)]) hx hb dX3_more_38 hl (by decide) rfl (fun ls hl => ?_)
          refine lv_aload hx hb dX3_more_40 (lv_at hl 1 rfl) ?_
          refine lv_ifnull hx hb dX3_more_42 ?_
          refine lv_aloadN hx hb dX3_more_45 (lv_at hl 0 rfl) ?_
          refine lv_ifnonnullN hx hb dX3_more_47 ?_
          refine lv_iconst (v := (-1 : Int32)) hx hb dX3_more_50 (by decide) ?_
          exact k_reti hx hb hr hlocks rfl hR hS h dX3_more_51
        · replace h := hb2 v33 rfl
          refine lv_astore (lv' := [(6, .ref v33), (5, .ref v15), (0, .ref p0), (1, .int p1), (2, .int p2), (3, .int p3), (4, .int p4)]) hx hb dX3_more_38 hl (by decide) rfl (fun ls hl => ?_)
          refine lv_aload hx hb dX3_more_40 (lv_at hl 1 rfl) ?_
          refine lv_ifnull hx hb dX3_more_42 ?_
          refine lv_aload hx hb dX3_more_45 (lv_at hl 0 rfl) ?_
          refine lv_ifnonnull (tgt := 52) hx hb dX3_more_47 (by decide) ?_
          refine lv_aload hx hb dX3_more_52 (lv_at hl 1 rfl) ?_
          refine lv_aload hx hb dX3_more_54 (lv_at hl 0 rfl) ?_
          obtain ⟨fs37, hm36, h⟩ := h
          refine k_calli0 (va_runV (As := [.ref v33]) (rest := []) ⟨hx, hb, hml, hown, hts⟩ (c_X1_knownBeyond l G _ _ _ v15 v33 h) (cwV 1 hts gX3_more_X1_knownBeyond rfl rfl rfl (by decide +kernel) ⟨Nat.le_of_ble_eq_true rfl, Nat.le_of_ble_eq_true rfl⟩) (k_preV (q := (RX1, TX1, 3)) hm36 rfl hR hS hA hE) rfl rfl hl.1 rfl (lv_room (Nat.le_of_ble_eq_true rfl)) dX3_more_56 ⟨Nat.zero_le _, Nat.zero_le _⟩) hR hS hA (fun r34 M35 H locs h hR hS => ?_)
          exact k_reti hx hb hr hlocks rfl hR hS h dX3_more_59
    · replace h := hb2 hc
      refine lv_bipush (v := (-2 : Int32)) hx hb dX3_more_14 (by decide) ?_
      exact k_reti hx hb hr hlocks rfl hR hS h dX3_more_16

def wp_X3_ifReceive (G : k_G) (post : Int32 → k_M → Prop) (p0 : Nat) (p1 : Int32) (p2 : Int32) (p3 : Int32) (M0 : k_M) : Prop :=
  (∃ fs1 v2, M0 p0 = some (kO 4 fs1) ∧ fs1[0]? = some (.ref v2) ∧
  (∃ fs8, M0 v2 = some (kO 3 fs8) ∧ wp_X2_isHelper G (fun r5 M6 =>
  ((r5 = 0 →
  post (-1 : Int32) M6) ∧
  (¬ r5 = 0 →
  (∃ fs9 v10, M6 p0 = some (kO 4 fs9) ∧ fs9[0]? = some (.ref v10) ∧
    (∃ fs16, M6 v10 = some (kO 3 fs16) ∧ wp_X2_isMessage G (fun r13 M14 =>
    ((¬ r13 = 0 →
    (∃ fs17 v18, M14 p0 = some (kO 4 fs17) ∧ fs17[0]? = some (.ref v18) ∧
      (∃ fs21 v22, M14 v18 = some (kO 3 fs21) ∧ fs21[1]? = some (.ref v22) ∧
      (∃ n25 f26 v27, M14 v22 = some (kO1 G n25 f26) ∧ vp_in p1 n25 ∧ f26 (p1).toNatClampNeg = some v27 ∧
      (∃ fs31 v32, M14 p0 = some (kO 4 fs31) ∧ fs31[0]? = some (.ref v32) ∧
      (∃ fs35 v36, M14 v32 = some (kO 3 fs35) ∧ fs35[2]? = some (.ref v36) ∧
      (∃ n39 f40 v41, M14 v36 = some (kO1 G n39 f40) ∧ vp_in p2 n39 ∧ f40 (p2).toNatClampNeg = some v41 ∧
      (∃ fs45 v46, M14 p0 = some (kO 4 fs45) ∧ fs45[6]? = some (.ref v46) ∧
      (∃ fs52, M14 v46 = some (kO 2 fs52) ∧ wp_X1_become G (fun M50 =>
      (∃ fs53 v54, M50 p0 = some (kO 4 fs53) ∧ fs53[6]? = some (.ref v54) ∧
      (∃ fs60, M50 v54 = some (kO 2 fs60) ∧ wp_X1_takeOver G (fun M58 =>
      (∃ fs61 v62, M58 p0 = some (kO 4 fs61) ∧ fs61[6]? = some (.ref v62) ∧
      (∃ fs65 v66, M58 p0 = some (kO 4 fs65) ∧ fs65[0]? = some (.ref v66) ∧
      (∃ fs69 v70, M58 v66 = some (kO 3 fs69) ∧ fs69[0]? = some (.ref v70) ∧
      (∃ n73 f74, M58 v70 = some (kI G n73 f74) ∧ vp_in p1 n73 ∧
      (∃ fs80, M58 v62 = some (kO 2 fs80) ∧ wp_X1_raise G (fun M78 =>
      (((p3).toInt = 0 →
      (∃ fs84, M78 v41 = some (kO 2 fs84) ∧ wp_X1_knownBeyond G (fun r81 M82 =>
        post (r81 + (1 : Int32)) M82) v41 v27 M78)) ∧
      ((p3).toInt = 1 →
      (∃ fs85 v86, M78 p0 = some (kO 4 fs85) ∧ fs85[6]? = some (.ref v86) ∧
        (∃ fs92, M78 v86 = some (kO 2 fs92) ∧ wp_X1_orderTo G (fun r89 M90 =>
        post r89 M90) v86 v41 M78))) ∧
      ((p3).toInt = 2 →
      (∃ fs93 v94, M78 p0 = some (kO 4 fs93) ∧ fs93[6]? = some (.ref v94) ∧
        (∃ fs100, M78 v94 = some (kO 2 fs100) ∧ wp_X1_knots G (fun r97 M98 =>
        post r97 M98) v94 M78))) ∧
      ((p3).toInt < 0 ∨ 2 < (p3).toInt →
      post (-2 : Int32) M78))) v62 (f74 (p1).toNatClampNeg) M58)))))) v54 v41 M50))) v46 v27 M14))))))))) ∧
    (r13 = 0 →
    post (-1 : Int32) M14))) v10 p2 M6))))) v2 p1 M0))
theorem in_X3_ifReceive_X2 : ∀ w ∈ wsX20, w ∈ wsX3_ifReceive := by decide +kernel
theorem in_X3_ifReceive_X3 : ∀ w ∈ wsX30, w ∈ wsX3_ifReceive := by decide +kernel
set_option maxHeartbeats 4000000 in
set_option maxRecDepth 100000 in
theorem c_X3_ifReceive (l : Launch) (G : k_G) (M0 : k_M) (sz : Nat) (post : Int32 → k_M → Prop) (p0 : Nat) (p1 : Int32) (p2 : Int32) (p3 : Int32) (h : wp_X3_ifReceive G post p0 p1 p2 p3 M0) : Met l yX3_ifReceive wsX3_ifReceive ({ frames := 8, cells := 0, slots := 0, locals := 181 }) (va_Pc [.ref p0, .int p1, .int p2, .int p3] (kPre G M0 sz)) (va_Qi post (kB G M0 sz) (kA M0 sz)) 0 0 (kA M0 sz) := by
  refine Met.ofW (cc := cX3_ifReceive) (maxL := 6) (ret := (some .int)) (by decide) rfl ?_
  intro p e s m args below meth c s₁ B hml hv
  obtain ⟨rfl, hsz, hR, hE⟩ := hv
  have hx := B.exec
  have hb := B.bytes
  have hr := B.returns
  have hts := atoms_spec (ws := wsX3_ifReceive) B.pre
  have hown : s.vm.findClass RX3 = some m.cls := findClass_of_methodNamed B.named
  have hlocks := B.notSynchronized
  subst hsz
  have hK := hE.1
  have hA : ∀ q, s.heap.size ≤ q → kA M0 s.heap.size q := kA.new
  have hS : va_S (kA M0 s.heap.size) s.heap s.heap [] := va_S.rf
  have hw1 := hts (.fieldLink RX3 10 "ForkedStamps" "now" "LForkedStamps$State;") (by decide +kernel)
  have hw2 := hts (.fieldLink RX3 93 "ForkedStamps$State" "helpers" "[LForkedStamps$Stamp;") (by decide +kernel)
  have hw3 := hts (.fieldLink RX3 97 "ForkedStamps$State" "messages" "[LForkedStamps$Stamp;") (by decide +kernel)
  have hw4 := hts (.fieldLink RX3 37 "ForkedStamps" "trial" "LForkedStamps$Stamp;") (by decide +kernel)
  have hw5 := hts (.fieldLink RX3 48 "ForkedStamps$State" "shares" "[I") (by decide +kernel)
  have hl := lv_entry ([.ref p0, .int p1, .int p2, .int p3]) (n := 6) (Nat.le_of_ble_eq_true rfl)
  rw [lg_entry_eq]
  generalize (lg_sl ([.ref p0, .int p1, .int p2, .int p3]) ++ List.replicate (6 - (lg_sl ([.ref p0, .int p1, .int p2, .int p3])).length) Slot.unset).toArray = ls at hl ⊢
  have hl : lv_has ls 6 [(0, .ref p0), (1, .int p1), (2, .int p2), (3, .int p3)] := hl
  have hR0 := hR
  refine lv_aload_n hx hb dX3_ifReceive_0 rfl (lv_at hl 0 rfl) ?_
  obtain ⟨fs1, v2, hm3, hv4, h⟩ := h
  refine k_get (ci := 4) (C := RX3) (T := TX3) (N := 8) hx hb hts in_X3_ifReceive_X3 hown hK hR hm3 rfl 0 (by decide) hw1 (fun _ h9 => h9) hv4 dX3_ifReceive_1 ?_
  refine lv_iload_n hx hb dX3_ifReceive_4 rfl (lv_at hl 1 rfl) ?_
  obtain ⟨fs8, hm7, h⟩ := h
  refine k_calli0 (va_runV (As := [.int p1]) (rest := []) ⟨hx, hb, hml, hown, hts⟩ (c_X2_isHelper l G _ _ _ v2 p1 h) (cwV 1 hts gX3_ifReceive_X2_isHelper rfl rfl rfl (by decide +kernel) ⟨Nat.le_of_ble_eq_true rfl, Nat.le_of_ble_eq_true rfl⟩) (k_preV (q := (RX2, TX2, 7)) hm7 rfl hR hS hA hE) rfl rfl hl.1 rfl (lv_room (Nat.le_of_ble_eq_true rfl)) dX3_ifReceive_5 ⟨Nat.zero_le _, Nat.zero_le _⟩) hR hS hA (fun r5 M6 H locs h hR hS => ?_)
  obtain ⟨ha, hb2⟩ := h
  refine lv_if_eq (tgt := 22) hx hb dX3_ifReceive_8 (by decide) (fun hc => ?_) (fun hc => ?_)
  · replace h := ha hc
    refine lv_iconst (v := (-1 : Int32)) hx hb dX3_ifReceive_22 (by decide) ?_
    exact k_reti hx hb hr hlocks rfl hR hS h dX3_ifReceive_23
  · replace h := hb2 hc
    refine lv_aload_n hx hb dX3_ifReceive_11 rfl (lv_at hl 0 rfl) ?_
    obtain ⟨fs9, v10, hm11, hv12, h⟩ := h
    refine k_get (ci := 4) (C := RX3) (T := TX3) (N := 8) hx hb hts in_X3_ifReceive_X3 hown hK hR hm11 rfl 0 (by decide) hw1 (fun _ h9 => h9) hv12 dX3_ifReceive_12 ?_
    refine lv_iload_n hx hb dX3_ifReceive_15 rfl (lv_at hl 2 rfl) ?_
    obtain ⟨fs16, hm15, h⟩ := h
    refine k_calli0 (va_runV (As := [.int p2]) (rest := []) ⟨hx, hb, hml, hown, hts⟩ (c_X2_isMessage l G _ _ _ v10 p2 h) (cwV 1 hts gX3_ifReceive_X2_isMessage rfl rfl rfl (by decide +kernel) ⟨Nat.le_of_ble_eq_true rfl, Nat.le_of_ble_eq_true rfl⟩) (k_preV (q := (RX2, TX2, 7)) hm15 rfl hR hS hA hE) rfl rfl hl.1 rfl (lv_room (Nat.le_of_ble_eq_true rfl)) dX3_ifReceive_16 ⟨Nat.zero_le _, Nat.zero_le _⟩) hR hS hA (fun r13 M14 H locs h hR hS => ?_)
    obtain ⟨ha, hb2⟩ := h
    refine lv_if_ne (tgt := 24) hx hb dX3_ifReceive_19 (by decide) (fun hc => ?_) (fun hc => ?_)
    · replace h := ha hc
      refine lv_aload_n hx hb dX3_ifReceive_24 rfl (lv_at hl 0 rfl) ?_
      obtain ⟨fs17, v18, hm19, hv20, h⟩ := h
      refine k_get (ci := 4) (C := RX3) (T := TX3) (N := 8) hx hb hts in_X3_ifReceive_X3 hown hK hR hm19 rfl 0 (by decide) hw1 (fun _ h9 => h9) hv20 dX3_ifReceive_25 ?_
      obtain ⟨fs21, v22, hm23, hv24, h⟩ := h
      refine k_get (ci := 3) (C := RX2) (T := TX2) (N := 7) hx hb hts in_X3_ifReceive_X2 hown hK hR hm23 rfl 1 (by decide) hw2 (fun _ h9 => h9) hv24 dX3_ifReceive_28 ?_
      refine lv_iload_n hx hb dX3_ifReceive_31 rfl (lv_at hl 1 rfl) ?_
      obtain ⟨n25, f26, v27, hm28, hv29, hq30, h⟩ := h
      refine k_ald1 hx hb hK hR hm28 hv29 hq30 dX3_ifReceive_32 ?_
      refine lv_astore (lv' := [(4, .ref v27), (0, .ref p0), (1, .int p1), (2, .int p2), (3, .int p3)]) hx hb dX3_ifReceive_33 hl (by decide) rfl (fun ls hl => ?_)
      refine lv_aload_n hx hb dX3_ifReceive_35 rfl (lv_at hl 1 rfl) ?_
      obtain ⟨fs31, v32, hm33, hv34, h⟩ := h
      refine k_get (ci := 4) (C := RX3) (T := TX3) (N := 8) hx hb hts in_X3_ifReceive_X3 hown hK hR hm33 rfl 0 (by decide) hw1 (fun _ h9 => h9) hv34 dX3_ifReceive_36 ?_
      obtain ⟨fs35, v36, hm37, hv38, h⟩ := h
      refine k_get (ci := 3) (C := RX2) (T := TX2) (N := 7) hx hb hts in_X3_ifReceive_X2 hown hK hR hm37 rfl 2 (by decide) hw3 (fun _ h9 => h9) hv38 dX3_ifReceive_39 ?_
      refine lv_iload_n hx hb dX3_ifReceive_42 rfl (lv_at hl 3 rfl) ?_
      obtain ⟨n39, f40, v41, hm42, hv43, hq44, h⟩ := h
      refine k_ald1 hx hb hK hR hm42 hv43 hq44 dX3_ifReceive_43 ?_
      refine lv_astore (lv' := [(5, .ref v41), (4, .ref v27), (0, .ref p0), (1, .int p1), (2, .int p2), (3, .int p3)]) hx hb dX3_ifReceive_44 hl (by decide) rfl (fun ls hl => ?_)
      refine lv_aload_n hx hb dX3_ifReceive_46 rfl (lv_at hl 2 rfl) ?_
      obtain ⟨fs45, v46, hm47, hv48, h⟩ := h
      refine k_get (ci := 4) (C := RX3) (T := TX3) (N := 8) hx hb hts in_X3_ifReceive_X3 hown hK hR hm47 rfl 6 (by decide) hw4 (fun _ h9 => h9) hv48 dX3_ifReceive_47 ?_
      refine lv_aload hx hb dX3_ifReceive_50 (lv_at hl 1 rfl) ?_
      obtain ⟨fs52, hm51, h⟩ := h
      refine k_callv0 (va_runV (As := [.ref v27]) (rest := []) ⟨hx, hb, hml, hown, hts⟩ (c_X1_become l G _ _ _ v46 v27 h) (cwV 1 hts gX3_ifReceive_X1_become rfl rfl rfl (by decide +kernel) ⟨Nat.le_of_ble_eq_true rfl, Nat.le_of_ble_eq_true rfl⟩) (k_preV (q := (RX1, TX1, 3)) hm51 rfl hR hS hA hE) rfl rfl hl.1 rfl (lv_room (Nat.le_of_ble_eq_true rfl)) dX3_ifReceive_52 ⟨Nat.zero_le _, Nat.zero_le _⟩) hR hS hA (fun M50 H locs h hR hS => ?_)
      refine lv_aload_n hx hb dX3_ifReceive_55 rfl (lv_at hl 2 rfl) ?_
      obtain ⟨fs53, v54, hm55, hv56, h⟩ := h
      refine k_get (ci := 4) (C := RX3) (T := TX3) (N := 8) hx hb hts in_X3_ifReceive_X3 hown hK hR hm55 rfl 6 (by decide) hw4 (fun _ h9 => h9) hv56 dX3_ifReceive_56 ?_
      refine lv_aload hx hb dX3_ifReceive_59 (lv_at hl 0 rfl) ?_
      obtain ⟨fs60, hm59, h⟩ := h
      refine k_callv0 (va_runV (As := [.ref v41]) (rest := []) ⟨hx, hb, hml, hown, hts⟩ (c_X1_takeOver l G _ _ _ v54 v41 h) (cwV 1 hts gX3_ifReceive_X1_takeOver rfl rfl rfl (by decide +kernel) ⟨Nat.le_of_ble_eq_true rfl, Nat.le_of_ble_eq_true rfl⟩) (k_preV (q := (RX1, TX1, 3)) hm59 rfl hR hS hA hE) rfl rfl hl.1 rfl (lv_room (Nat.le_of_ble_eq_true rfl)) dX3_ifReceive_61 ⟨Nat.zero_le _, Nat.zero_le _⟩) hR hS hA (fun M58 H locs h hR hS => ?_)
      refine lv_aload_n hx hb dX3_ifReceive_64 rfl (lv_at hl 2 rfl) ?_
      obtain ⟨fs61, v62, hm63, hv64, h⟩ := h
      refine k_get (ci := 4) (C := RX3) (T := TX3) (N := 8) hx hb hts in_X3_ifReceive_X3 hown hK hR hm63 rfl 6 (by decide) hw4 (fun _ h9 => h9) hv64 dX3_ifReceive_65 ?_
      refine lv_aload_n hx hb dX3_ifReceive_68 rfl (lv_at hl 2 rfl) ?_
      obtain ⟨fs65, v66, hm67, hv68, h⟩ := h
      refine k_get (ci := 4) (C := RX3) (T := TX3) (N := 8) hx hb hts in_X3_ifReceive_X3 hown hK hR hm67 rfl 0 (by decide) hw1 (fun _ h9 => h9) hv68 dX3_ifReceive_69 ?_
      obtain ⟨fs69, v70, hm71, hv72, h⟩ := h
      refine k_get (ci := 3) (C := RX2) (T := TX2) (N := 7) hx hb hts in_X3_ifReceive_X2 hown hK hR hm71 rfl 0 (by decide) hw5 (fun _ h9 => h9) hv72 dX3_ifReceive_72 ?_
      refine lv_iload_n hx hb dX3_ifReceive_75 rfl (lv_at hl 3 rfl) ?_
      obtain ⟨n73, f74, hm75, hv76, h⟩ := h
      refine k_iald hx hb hK hR hm75 hv76 dX3_ifReceive_76 ?_
      obtain ⟨fs80, hm79, h⟩ := h
      refine k_callv0 (va_runV (As := [.int (f74 (p1).toNatClampNeg)]) (rest := []) ⟨hx, hb, hml, hown, hts⟩ (c_X1_raise l G _ _ _ v62 (f74 (p1).toNatClampNeg) h) (cwV 1 hts gX3_ifReceive_X1_raise rfl rfl rfl (by decide +kernel) ⟨Nat.le_of_ble_eq_true rfl, Nat.le_of_ble_eq_true rfl⟩) (k_preV (q := (RX1, TX1, 3)) hm79 rfl hR hS hA hE) rfl rfl hl.1 rfl (lv_room (Nat.le_of_ble_eq_true rfl)) dX3_ifReceive_77 ⟨Nat.zero_le _, Nat.zero_le _⟩) hR hS hA (fun M78 H locs h hR hS => ?_)
      refine lv_iload_n hx hb dX3_ifReceive_80 rfl (lv_at hl 5 rfl) ?_
      have hsw := h
      obtain ⟨hs0, hs1, hs2, hs3⟩ := hsw
      by_cases hout : (p3).toInt < 0 ∨ 2 < (p3).toInt
      · refine lv_tableOut (tgt := 136) hx hb dX3_ifReceive_81 hout (by decide) ?_
        replace h := hs3 hout
        refine lv_bipush (v := (-2 : Int32)) hx hb dX3_ifReceive_136 (by decide) ?_
        exact k_reti hx hb hr hlocks rfl hR hS h dX3_ifReceive_138
      have hin : (p3).toInt = 0 ∨ (p3).toInt = 1 ∨ (p3).toInt = 2 := by omega
      rcases hin with hk | hk | hk
      · refine lv_tableIn (tgt := 108) (off := 27) hx hb dX3_ifReceive_81 (by omega) (by omega) (by rw [hk]; rfl) (by decide) ?_
        replace h := hs0 hk
        refine lv_aload hx hb dX3_ifReceive_108 (lv_at hl 0 rfl) ?_
        refine lv_aload hx hb dX3_ifReceive_110 (lv_at hl 1 rfl) ?_
        obtain ⟨fs84, hm83, h⟩ := h
        refine k_calli0 (va_runV (As := [.ref v27]) (rest := []) ⟨hx, hb, hml, hown, hts⟩ (c_X1_knownBeyond l G _ _ _ v41 v27 h) (cwV 1 hts gX3_ifReceive_X1_knownBeyond rfl rfl rfl (by decide +kernel) ⟨Nat.le_of_ble_eq_true rfl, Nat.le_of_ble_eq_true rfl⟩) (k_preV (q := (RX1, TX1, 3)) hm83 rfl hR hS hA hE) rfl rfl hl.1 rfl (lv_room (Nat.le_of_ble_eq_true rfl)) dX3_ifReceive_112 ⟨Nat.zero_le _, Nat.zero_le _⟩) hR hS hA (fun r81 M82 H locs h hR hS => ?_)
        refine lv_iconst (v := (1 : Int32)) hx hb dX3_ifReceive_115 (by decide) ?_
        refine lv_iadd hx hb dX3_ifReceive_116 ?_
        exact k_reti hx hb hr hlocks rfl hR hS h dX3_ifReceive_117
      · refine lv_tableIn (tgt := 118) (off := 37) hx hb dX3_ifReceive_81 (by omega) (by omega) (by rw [hk]; rfl) (by decide) ?_
        replace h := hs1 hk
        refine lv_aload_n hx hb dX3_ifReceive_118 rfl (lv_at hl 2 rfl) ?_
        obtain ⟨fs85, v86, hm87, hv88, h⟩ := h
        refine k_get (ci := 4) (C := RX3) (T := TX3) (N := 8) hx hb hts in_X3_ifReceive_X3 hown hK hR hm87 rfl 6 (by decide) hw4 (fun _ h9 => h9) hv88 dX3_ifReceive_119 ?_
        refine lv_aload hx hb dX3_ifReceive_122 (lv_at hl 0 rfl) ?_
        obtain ⟨fs92, hm91, h⟩ := h
        refine k_calli0 (va_runV (As := [.ref v41]) (rest := []) ⟨hx, hb, hml, hown, hts⟩ (c_X1_orderTo l G _ _ _ v86 v41 h) (cwV 1 hts gX3_ifReceive_X1_orderTo rfl rfl rfl (by decide +kernel) ⟨Nat.le_of_ble_eq_true rfl, Nat.le_of_ble_eq_true rfl⟩) (k_preV (q := (RX1, TX1, 3)) hm91 rfl hR hS hA hE) rfl rfl hl.1 rfl (lv_room (Nat.le_of_ble_eq_true rfl)) dX3_ifReceive_124 ⟨Nat.zero_le _, Nat.zero_le _⟩) hR hS hA (fun r89 M90 H locs h hR hS => ?_)
        exact k_reti hx hb hr hlocks rfl hR hS h dX3_ifReceive_127
      · refine lv_tableIn (tgt := 128) (off := 47) hx hb dX3_ifReceive_81 (by omega) (by omega) (by rw [hk]; rfl) (by decide) ?_
        replace h := hs2 hk
        refine lv_aload_n hx hb dX3_ifReceive_128 rfl (lv_at hl 2 rfl) ?_
        obtain ⟨fs93, v94, hm95, hv96, h⟩ := h
        refine k_get (ci := 4) (C := RX3) (T := TX3) (N := 8) hx hb hts in_X3_ifReceive_X3 hown hK hR hm95 rfl 6 (by decide) hw4 (fun _ h9 => h9) hv96 dX3_ifReceive_129 ?_
        obtain ⟨fs100, hm99, h⟩ := h
        refine k_calli0 (va_runV (As := []) (rest := []) ⟨hx, hb, hml, hown, hts⟩ (c_X1_knots l G _ _ _ v94 h) (cwV 0 hts gX3_ifReceive_X1_knots rfl rfl rfl (by decide +kernel) ⟨Nat.le_of_ble_eq_true rfl, Nat.le_of_ble_eq_true rfl⟩) (k_preV (q := (RX1, TX1, 3)) hm99 rfl hR hS hA hE) rfl rfl hl.1 rfl (lv_room (Nat.le_of_ble_eq_true rfl)) dX3_ifReceive_132 ⟨Nat.zero_le _, Nat.zero_le _⟩) hR hS hA (fun r97 M98 H locs h hR hS => ?_)
        exact k_reti hx hb hr hlocks rfl hR hS h dX3_ifReceive_135
    · replace h := hb2 hc
      refine lv_iconst (v := (-1 : Int32)) hx hb dX3_ifReceive_22 (by decide) ?_
      exact k_reti hx hb hr hlocks rfl hR hS h dX3_ifReceive_23

def wp_X3_laggard_b12 (G : k_G) (post : Int32 → k_M → Prop) (x0 : Nat) (x1 : Int32) (M : k_M) : Prop :=
  (∃ fs1 v2, M x0 = some (kO 4 fs1) ∧ fs1[0]? = some (.ref v2) ∧
    (∃ fs8, M v2 = some (kO 3 fs8) ∧ wp_X2_leastKnowing G (fun r5 M6 =>
    ((¬ x1 = 0 →
    (∃ fs9 v10, M6 x0 = some (kO 4 fs9) ∧ fs9[0]? = some (.ref v10) ∧
      (∃ fs13 v14, M6 v10 = some (kO 3 fs13) ∧ fs13[6]? = some (.int v14) ∧
      (∃ fs17 v18, M6 x0 = some (kO 4 fs17) ∧ fs17[0]? = some (.ref v18) ∧
      (∃ fs21 v22, M6 v18 = some (kO 3 fs21) ∧ fs21[1]? = some (.ref v22) ∧
      (∃ n25 f26 v27, M6 v22 = some (kO1 G n25 f26) ∧ vp_in r5 n25 ∧ f26 (r5).toNatClampNeg = some v27 ∧
      (∃ fs34, M6 v27 = some (kO 2 fs34) ∧ wp_X1_knownCount G (fun r31 M32 =>
      post (v14 - r31) M32) v27 M6))))))) ∧
    (x1 = 0 →
    post r5 M6))) v2 M))
def wp_X3_laggard (G : k_G) (post : Int32 → k_M → Prop) (p0 : Nat) (p1 : Int32) (M0 : k_M) : Prop :=
  ((p1 = 0 →
  wp_X3_laggard_b12 G post p0 p1 M0) ∧
  (¬ p1 = 0 →
  ((p1 = (1 : Int32) →
    wp_X3_laggard_b12 G post p0 p1 M0) ∧
    (¬ p1 = (1 : Int32) →
    post (-2 : Int32) M0))))
theorem in_X3_laggard_X2 : ∀ w ∈ wsX20, w ∈ wsX3_laggard := by decide +kernel
theorem in_X3_laggard_X3 : ∀ w ∈ wsX30, w ∈ wsX3_laggard := by decide +kernel
set_option maxHeartbeats 4000000 in
set_option maxRecDepth 100000 in
theorem c_X3_laggard (l : Launch) (G : k_G) (M0 : k_M) (sz : Nat) (post : Int32 → k_M → Prop) (p0 : Nat) (p1 : Int32) (h : wp_X3_laggard G post p0 p1 M0) : Met l yX3_laggard wsX3_laggard ({ frames := 3, cells := 0, slots := 0, locals := 64 }) (va_Pc [.ref p0, .int p1] (kPre G M0 sz)) (va_Qi post (kB G M0 sz) (kA M0 sz)) 0 0 (kA M0 sz) := by
  refine Met.ofW (cc := cX3_laggard) (maxL := 3) (ret := (some .int)) (by decide) rfl ?_
  intro p e s m args below meth c s₁ B hml hv
  obtain ⟨rfl, hsz, hR, hE⟩ := hv
  have hx := B.exec
  have hb := B.bytes
  have hr := B.returns
  have hts := atoms_spec (ws := wsX3_laggard) B.pre
  have hown : s.vm.findClass RX3 = some m.cls := findClass_of_methodNamed B.named
  have hlocks := B.notSynchronized
  subst hsz
  have hK := hE.1
  have hA : ∀ q, s.heap.size ≤ q → kA M0 s.heap.size q := kA.new
  have hS : va_S (kA M0 s.heap.size) s.heap s.heap [] := va_S.rf
  have hw1 := hts (.fieldLink RX3 10 "ForkedStamps" "now" "LForkedStamps$State;") (by decide +kernel)
  have hw2 := hts (.fieldLink RX3 77 "ForkedStamps$State" "eventCount" "I") (by decide +kernel)
  have hw3 := hts (.fieldLink RX3 93 "ForkedStamps$State" "helpers" "[LForkedStamps$Stamp;") (by decide +kernel)
  have b12 : ∀ (x0 : Nat) (x1 : Int32) (M : k_M) (H : Heap) (locs : List Loc) (ls : Array Slot), wp_X3_laggard_b12 G post x0 x1 M → lv_has ls 3 [(0, .ref x0), (1, .int x1)] → kR G M (kA M0 s.heap.size) H → va_S (kA M0 s.heap.size) s.heap H locs → W p l e (headSpec wsX3_laggard ({ frames := 3, cells := 0, slots := 0, locals := 64 })).room s m ([.ref p0, .int p1] : List Value).toArray below meth c H locs 0 0 (MQ below (va_Qi post (kB G M0 s.heap.size) (kA M0 s.heap.size)) ([.ref p0, .int p1] : List Value).toArray s 0 0 (kA M0 s.heap.size)) (F0 m 12 ls []) := by
    intro x0 x1 M H locs ls h hl hR hS
    refine lv_aload_n hx hb dX3_laggard_12 rfl (lv_at hl 0 rfl) ?_
    obtain ⟨fs1, v2, hm3, hv4, h⟩ := h
    refine k_get (ci := 4) (C := RX3) (T := TX3) (N := 8) hx hb hts in_X3_laggard_X3 hown hK hR hm3 rfl 0 (by decide) hw1 (fun _ h9 => h9) hv4 dX3_laggard_13 ?_
    obtain ⟨fs8, hm7, h⟩ := h
    refine k_calli0 (va_runV (As := []) (rest := []) ⟨hx, hb, hml, hown, hts⟩ (c_X2_leastKnowing l G _ _ _ v2 h) (cwV 0 hts gX3_laggard_X2_leastKnowing rfl rfl rfl (by decide +kernel) ⟨Nat.le_of_ble_eq_true rfl, Nat.le_of_ble_eq_true rfl⟩) (k_preV (q := (RX2, TX2, 7)) hm7 rfl hR hS hA hE) rfl rfl hl.1 rfl (lv_room (Nat.le_of_ble_eq_true rfl)) dX3_laggard_16 ⟨Nat.zero_le _, Nat.zero_le _⟩) hR hS hA (fun r5 M6 H locs h hR hS => ?_)
    refine lv_istore_n (lv' := [(2, .int r5), (0, .ref x0), (1, .int x1)]) hx hb dX3_laggard_19 rfl hl (by decide) rfl (fun ls hl => ?_)
    refine lv_iload_n hx hb dX3_laggard_20 rfl (lv_at hl 2 rfl) ?_
    obtain ⟨ha, hb2⟩ := h
    refine lv_if_ne (tgt := 28) hx hb dX3_laggard_21 (by decide) (fun hc => ?_) (fun hc => ?_)
    · replace h := ha hc
      refine lv_aload_n hx hb dX3_laggard_28 rfl (lv_at hl 1 rfl) ?_
      obtain ⟨fs9, v10, hm11, hv12, h⟩ := h
      refine k_get (ci := 4) (C := RX3) (T := TX3) (N := 8) hx hb hts in_X3_laggard_X3 hown hK hR hm11 rfl 0 (by decide) hw1 (fun _ h9 => h9) hv12 dX3_laggard_29 ?_
      obtain ⟨fs13, v14, hm15, hv16, h⟩ := h
      refine k_get (ci := 3) (C := RX2) (T := TX2) (N := 7) hx hb hts in_X3_laggard_X2 hown hK hR hm15 rfl 6 (by decide) hw2 (fun _ h9 => h9) hv16 dX3_laggard_32 ?_
      refine lv_aload_n hx hb dX3_laggard_35 rfl (lv_at hl 1 rfl) ?_
      obtain ⟨fs17, v18, hm19, hv20, h⟩ := h
      refine k_get (ci := 4) (C := RX3) (T := TX3) (N := 8) hx hb hts in_X3_laggard_X3 hown hK hR hm19 rfl 0 (by decide) hw1 (fun _ h9 => h9) hv20 dX3_laggard_36 ?_
      obtain ⟨fs21, v22, hm23, hv24, h⟩ := h
      refine k_get (ci := 3) (C := RX2) (T := TX2) (N := 7) hx hb hts in_X3_laggard_X2 hown hK hR hm23 rfl 1 (by decide) hw3 (fun _ h9 => h9) hv24 dX3_laggard_39 ?_
      refine lv_iload_n hx hb dX3_laggard_42 rfl (lv_at hl 0 rfl) ?_
      obtain ⟨n25, f26, v27, hm28, hv29, hq30, h⟩ := h
      refine k_ald1 hx hb hK hR hm28 hv29 hq30 dX3_laggard_43 ?_
      obtain ⟨fs34, hm33, h⟩ := h
      refine k_calli0 (va_runV (As := []) (rest := [.int v14]) ⟨hx, hb, hml, hown, hts⟩ (c_X1_knownCount l G _ _ _ v27 h) (cwV 0 hts gX3_laggard_X1_knownCount rfl rfl rfl (by decide +kernel) ⟨Nat.le_of_ble_eq_true rfl, Nat.le_of_ble_eq_true rfl⟩) (k_preV (q := (RX1, TX1, 3)) hm33 rfl hR hS hA hE) rfl rfl hl.1 rfl (lv_room (Nat.le_of_ble_eq_true rfl)) dX3_laggard_44 ⟨Nat.zero_le _, Nat.zero_le _⟩) hR hS hA (fun r31 M32 H locs h hR hS => ?_)
      refine lv_isub hx hb dX3_laggard_47 ?_
      exact k_reti hx hb hr hlocks rfl hR hS h dX3_laggard_48
    · replace h := hb2 hc
      refine lv_iload_n hx hb dX3_laggard_24 rfl (lv_at hl 0 rfl) ?_
      refine lv_goto (tgt := 48) hx hb dX3_laggard_25 (by decide) ?_
      exact k_reti hx hb hr hlocks rfl hR hS h dX3_laggard_48
  have hl := lv_entry ([.ref p0, .int p1]) (n := 3) (Nat.le_of_ble_eq_true rfl)
  rw [lg_entry_eq]
  generalize (lg_sl ([.ref p0, .int p1]) ++ List.replicate (3 - (lg_sl ([.ref p0, .int p1])).length) Slot.unset).toArray = ls at hl ⊢
  have hl : lv_has ls 3 [(0, .ref p0), (1, .int p1)] := hl
  have hR0 := hR
  refine lv_iload_n hx hb dX3_laggard_0 rfl (lv_at hl 1 rfl) ?_
  obtain ⟨ha, hb2⟩ := h
  refine lv_if_eq (tgt := 12) hx hb dX3_laggard_1 (by decide) (fun hc => ?_) (fun hc => ?_)
  · replace h := ha hc
    exact b12 _ _ _ _ _ _ h (lv_sub hl [0, 1] rfl) hR hS
  · replace h := hb2 hc
    refine lv_iload_n hx hb dX3_laggard_4 rfl (lv_at hl 1 rfl) ?_
    refine lv_iconst (v := (1 : Int32)) hx hb dX3_laggard_5 (by decide) ?_
    obtain ⟨ha, hb2⟩ := h
    refine lv_icmp_eq (tgt := 12) hx hb dX3_laggard_6 (by decide) (fun hc => ?_) (fun hc => ?_)
    · replace h := ha hc
      exact b12 _ _ _ _ _ _ h (lv_sub hl [0, 1] rfl) hR hS
    · replace h := hb2 hc
      refine lv_bipush (v := (-2 : Int32)) hx hb dX3_laggard_9 (by decide) ?_
      exact k_reti hx hb hr hlocks rfl hR hS h dX3_laggard_11
