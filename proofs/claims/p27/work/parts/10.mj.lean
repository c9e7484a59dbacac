def wp_J5_init_d00df (G : k_G) (mc ms : Nat) (post : k_M → Prop) (p0 : Nat) (p1 : Int32) (M0 : k_M) : Prop :=
  (((1 : Int32) = 0 →
  False) ∧
  (¬ (1 : Int32) = 0 →
  (∃ N1 : Nat, ¬ p1 < 0 ∧ (p1).toNatClampNeg = N1 ∧ N1 * 1 ≤ 536870912 ∧ 0 + 1 ≤ mc ∧ 0 + N1 ≤ ms ∧ ∀ (q2 : Nat) (M3 : k_M), M0 q2 = none → M3 = va_up M0 q2 (some (kY G N1 (fun _ => 0))) →
    (∃ fs9, M3 p0 = some (kO 0 fs9) ∧ 0 < fs9.length ∧ ∀ M10 : k_M, M10 = va_up M3 p0 (some (kO 0 (fs9.set 0 (.ref q2)))) →
    (narrow .byte (.int (0 : Int32)) = .int (0 : Int32) ∧ fits .byte (.int (0 : Int32)) = true ∧
    (∃ fs13, M10 p0 = some (kO 0 fs13) ∧ 1 < fs13.length ∧ ∀ M14 : k_M, M14 = va_up M10 p0 (some (kO 0 (fs13.set 1 (.int (0 : Int32))))) →
    (0 + 1) ≤ mc ∧ (0 + N1) ≤ ms ∧ post M14))))))
theorem in_J5_init_d00df_J4 : ∀ w ∈ wsJ40, w ∈ wsJ5_init_d00df := by decide +kernel
set_option maxHeartbeats 4000000 in
set_option maxRecDepth 100000 in
theorem c_J5_init_d00df (l : Launch) (G : k_G) (mc ms : Nat) (M0 : k_M) (sz : Nat) (post : k_M → Prop) (p0 : Nat) (p1 : Int32) (h : wp_J5_init_d00df G mc ms post p0 p1 M0) : Met l yJ5_init_d00df wsJ5_init_d00df ({ frames := 1, cells := mc, slots := ms, locals := 12 }) (va_Pc [.ref p0, .int p1] (kPre G M0 sz)) (va_Qv post (kB G M0 sz) (kA M0 sz)) mc ms (kA M0 sz) := by
  refine Met.ofW (cc := cJ5_init_d00df) (maxL := 2) (ret := none) (by decide) rfl ?_
  intro p e s m args below meth c s₁ B hml hv
  obtain ⟨rfl, hsz, hR, hE⟩ := hv
  have hx := B.exec
  have hb := B.bytes
  have hr := B.returns
  have hts := atoms_spec (ws := wsJ5_init_d00df) B.pre
  have hown : s.vm.findClass RJ5 = some m.cls := findClass_of_methodNamed B.named
  have hlocks := B.notSynchronized
  have hin0 : meth.name = "<init>" := (name_of_methodNamed B.named B.method).1
  subst hsz
  have hK := hE.1
  have hA : ∀ q, s.heap.size ≤ q → kA M0 s.heap.size q := kA.new
  have hS : va_S (kA M0 s.heap.size) s.heap s.heap [] := va_S.rf
  have hw1 := hts (.methodLink RJ5 3 objectInit) (by decide +kernel)
  have hw2 := hts (.instanceMethod objectInit) (by decide +kernel)
  have hw3 := hts (.code objectInit ⟨#[0xb1]⟩ 1 none) (by decide +kernel)
  have hw4 := hts (.fieldLink RJ5 18 "java/lang/String" "COMPACT_STRINGS" "Z") (by decide +kernel)
  have hw5 := hts (.arrayClass .byte) (by decide +kernel)
  have hw6 := hts (.fieldLink RJ5 15 "java/lang/AbstractStringBuilder" "value" "[B") (by decide +kernel)
  have hw7 := hts (.fieldLink RJ5 22 "java/lang/AbstractStringBuilder" "coder" "B") (by decide +kernel)
  have hl := lv_entry ([.ref p0, .int p1]) (n := 2) (Nat.le_of_ble_eq_true rfl)
  rw [lg_entry_eq]
  generalize (lg_sl ([.ref p0, .int p1]) ++ List.replicate (2 - (lg_sl ([.ref p0, .int p1])).length) Slot.unset).toArray = ls at hl ⊢
  have hl : lv_has ls 2 [(0, .ref p0), (1, .int p1)] := hl
  have hR0 := hR
  refine lv_aload_n hx hb dJ5_init_d00df_0 rfl (lv_at hl 0 rfl) ?_
  refine W.objInit hx hb hown hw1 hw2 hw3 rfl (by rw [hml]; exact hl.1) rfl dJ5_init_d00df_1 (Nat.le_of_ble_eq_true rfl) (Nat.le_of_ble_eq_true rfl) ?_
  refine W.eq (g2 := F0 m 4 ls []) rfl ?_
  refine va_gets (v := .int 1) hx hb hE.2.1.1 hS hown hw4 (fun _ h9 => h9) dJ5_init_d00df_4 ?_
  obtain ⟨ha, hb2⟩ := h
  refine lv_if_eq (tgt := 25) hx hb dJ5_init_d00df_7 (by decide) (fun hc => ?_) (fun hc => ?_)
  · replace h := ha hc
    refine lv_aload_n hx hb dJ5_init_d00df_25 rfl (lv_at hl 0 rfl) ?_
    refine lv_iload_n hx hb dJ5_init_d00df_26 rfl (lv_at hl 1 rfl) ?_
    exact h.elim
  · replace h := hb2 hc
    refine lv_aload_n hx hb dJ5_init_d00df_10 rfl (lv_at hl 0 rfl) ?_
    refine lv_iload_n hx hb dJ5_init_d00df_11 rfl (lv_at hl 1 rfl) ?_
    obtain ⟨N1, hn4, hn5, hn6, hn7, hn8, h⟩ := h
    refine k_newa (atype := .byte) (ty := .byte) (a0 := (N1, .inl (fun _ => 0))) hx hb hw5 rfl 3 rfl hK hR hS hA (fun _ => rfl) hn4 hn5 hn6 hn7 hn8 dJ5_init_d00df_12 (fun q2 H hq hR hS => ?_)
    replace h := h q2 _ hq rfl
    obtain ⟨fs9, hm11, hk12, h⟩ := h
    replace h := h _ rfl
    refine k_put (ci := 0) (v := .ref q2) (ty := .array .byte) (C := RJ4) (T := TJ4) (N := 4) hx hb hts in_J5_init_d00df_J4 tyJ4 tyJ4_ok nmJ4 hown hK hR hS hm11 rfl 0 (by decide) hw6 (fun _ h9 => h9) rfl (by decide +kernel) rfl rfl hk12 dJ5_init_d00df_14 (fun H locs hR hS => ?_)
    refine lv_aload_n hx hb dJ5_init_d00df_17 rfl (lv_at hl 0 rfl) ?_
    refine lv_iconst (v := (0 : Int32)) hx hb dJ5_init_d00df_18 (by decide) ?_
    obtain ⟨hn17, hf18, h⟩ := h
    obtain ⟨fs13, hm15, hk16, h⟩ := h
    replace h := h _ rfl
    refine k_put (ci := 0) (v := .int (0 : Int32)) (ty := .byte) (C := RJ4) (T := TJ4) (N := 4) hx hb hts in_J5_init_d00df_J4 tyJ4 tyJ4_ok nmJ4 hown hK hR hS hm15 rfl 1 (by decide) hw7 (fun _ h9 => h9) rfl (by decide +kernel) hn17 hf18 hk16 dJ5_init_d00df_19 (fun H locs hR hS => ?_)
    refine lv_goto (tgt := 38) hx hb dJ5_init_d00df_22 (by decide) ?_
    obtain ⟨hwc, hws, h⟩ := h
    refine W.widen (k := mc) (n := ms) hwc hws ?_
    exact k_retv hx hb hr hlocks hR hS h dJ5_init_d00df_38

def wp_J4_init_da8c8 (G : k_G) (mc ms : Nat) (post : k_M → Prop) (p0 : Nat) (M0 : k_M) : Prop :=
  (∃ mc1 ms2 : Nat, 0 + mc1 ≤ mc ∧ 0 + ms2 ≤ ms ∧ wp_J5_init_d00df G mc1 ms2 (fun M4 =>
  (0 + mc1) ≤ mc ∧ (0 + ms2) ≤ ms ∧ post M4) p0 (16 : Int32) M0)
set_option maxHeartbeats 4000000 in
set_option maxRecDepth 100000 in
theorem c_J4_init_da8c8 (l : Launch) (G : k_G) (mc ms : Nat) (M0 : k_M) (sz : Nat) (post : k_M → Prop) (p0 : Nat) (h : wp_J4_init_da8c8 G mc ms post p0 M0) : Met l yJ4_init_da8c8 wsJ4_init_da8c8 ({ frames := 2, cells := mc, slots := ms, locals := 33 }) (va_Pc [.ref p0] (kPre G M0 sz)) (va_Qv post (kB G M0 sz) (kA M0 sz)) mc ms (kA M0 sz) := by
  refine Met.ofW (cc := cJ4_init_da8c8) (maxL := 1) (ret := none) (by decide) rfl ?_
  intro p e s m args below meth c s₁ B hml hv
  obtain ⟨rfl, hsz, hR, hE⟩ := hv
  have hx := B.exec
  have hb := B.bytes
  have hr := B.returns
  have hts := atoms_spec (ws := wsJ4_init_da8c8) B.pre
  have hown : s.vm.findClass RJ4 = some m.cls := findClass_of_methodNamed B.named
  have hlocks := B.notSynchronized
  have hin0 : meth.name = "<init>" := (name_of_methodNamed B.named B.method).1
  subst hsz
  have hK := hE.1
  have hA : ∀ q, s.heap.size ≤ q → kA M0 s.heap.size q := kA.new
  have hS : va_S (kA M0 s.heap.size) s.heap s.heap [] := va_S.rf
  have hw1 := hts (.initialized RJ5) (by decide +kernel)
  have hw2 := hts (.methodLink RJ4 1 yJ5_init_d00df) (by decide +kernel)
  have hw3 := hts (.instanceMethod yJ5_init_d00df) (by decide +kernel)
  have hl := lv_entry ([.ref p0]) (n := 1) (Nat.le_of_ble_eq_true rfl)
  rw [lg_entry_eq]
  generalize (lg_sl ([.ref p0]) ++ List.replicate (1 - (lg_sl ([.ref p0])).length) Slot.unset).toArray = ls at hl ⊢
  have hl : lv_has ls 1 [(0, .ref p0)] := hl
  have hR0 := hR
  refine lv_aload_n hx hb dJ4_init_da8c8_0 rfl (lv_at hl 0 rfl) ?_
  refine lv_bipush (v := (16 : Int32)) hx hb dJ4_init_da8c8_1 (by decide) ?_
  obtain ⟨mc1, ms2, hc6, hc7, h⟩ := h
  refine k_callv (va_runI (As := [.int (16 : Int32)]) (rest := []) ⟨hx, hb, hml, hown, hts⟩ (c_J5_init_d00df l G mc1 ms2 _ _ _ p0 (16 : Int32) h) (cwI 1 hts gJ4_init_da8c8_J5_init_d00df rfl rfl rfl hw1 hw2 hw3 rfl (by decide +kernel) ⟨Nat.le_of_ble_eq_true rfl, Nat.le_of_ble_eq_true rfl⟩) (k_preS hR hS hA hE) rfl rfl hl.1 rfl (lv_room (Nat.le_of_ble_eq_true rfl)) dJ4_init_da8c8_3 ⟨hc6, hc7⟩) hR hS hA (fun M4 H locs h hR hS => ?_)
  obtain ⟨hwc, hws, h⟩ := h
  refine W.widen (k := mc) (n := ms) hwc hws ?_
  exact k_retv hx hb hr hlocks hR hS h dJ4_init_da8c8_6

def wp_J8_newLength_cabcc (G : k_G) (post : Int32 → k_M → Prop) (p0 : Int32) (p1 : Int32) (p2 : Int32) (M0 : k_M) : Prop :=
  (((p0 + (if p1 < p2 then p2 else p1)) ≤ (0 : Int32) →
  False) ∧
  (¬ (p0 + (if p1 < p2 then p2 else p1)) ≤ (0 : Int32) →
  (((2147483639 : Int32) < (p0 + (if p1 < p2 then p2 else p1)) →
    False) ∧
    (¬ (2147483639 : Int32) < (p0 + (if p1 < p2 then p2 else p1)) →
    post (p0 + (if p1 < p2 then p2 else p1)) M0))))
set_option maxHeartbeats 4000000 in
set_option maxRecDepth 100000 in
theorem c_J8_newLength_cabcc (l : Launch) (G : k_G) (M0 : k_M) (sz : Nat) (post : Int32 → k_M → Prop) (p0 : Int32) (p1 : Int32) (p2 : Int32) (h : wp_J8_newLength_cabcc G post p0 p1 p2 M0) : Met l yJ8_newLength_cabcc wsJ8_newLength_cabcc ({ frames := 1, cells := 0, slots := 0, locals := 16 }) (va_Pc [.int p0, .int p1, .int p2] (kPre G M0 sz)) (va_Qi post (kB G M0 sz) (kA M0 sz)) 0 0 (kA M0 sz) := by
  refine Met.ofW (cc := cJ8_newLength_cabcc) (maxL := 4) (ret := (some .int)) (by decide) rfl ?_
  intro p e s m args below meth c s₁ B hml hv
  obtain ⟨rfl, hsz, hR, hE⟩ := hv
  have hx := B.exec
  have hb := B.bytes
  have hr := B.returns
  have hts := atoms_spec (ws := wsJ8_newLength_cabcc) B.pre
  have hown : s.vm.findClass RJ8 = some m.cls := findClass_of_methodNamed B.named
  have hlocks := B.notSynchronized
  subst hsz
  have hK := hE.1
  have hA : ∀ q, s.heap.size ≤ q → kA M0 s.heap.size q := kA.new
  have hS : va_S (kA M0 s.heap.size) s.heap s.heap [] := va_S.rf
  have hw1 := hts (.methodLink RJ8 194 Lib.Math.max.name) (by decide +kernel)
  have hw2 := hts (.static Lib.Math.max.name) (by decide +kernel)
  have hw3 := hts (.initialized "java/lang/Math") (by decide +kernel)
  have hw4 := hts (.code Lib.Math.max.name Lib.Math.max.code 2 (some .int)) (by decide +kernel)
  have hw5 := hts (.constant RJ8 200 (2147483639)) (by decide +kernel)
  have hl := lv_entry ([.int p0, .int p1, .int p2]) (n := 4) (Nat.le_of_ble_eq_true rfl)
  rw [lg_entry_eq]
  generalize (lg_sl ([.int p0, .int p1, .int p2]) ++ List.replicate (4 - (lg_sl ([.int p0, .int p1, .int p2])).length) Slot.unset).toArray = ls at hl ⊢
  have hl : lv_has ls 4 [(0, .int p0), (1, .int p1), (2, .int p2)] := hl
  have hR0 := hR
  refine lv_iload_n hx hb dJ8_newLength_cabcc_0 rfl (lv_at hl 0 rfl) ?_
  refine lv_iload_n hx hb dJ8_newLength_cabcc_1 rfl (lv_at hl 1 rfl) ?_
  refine lv_iload_n hx hb dJ8_newLength_cabcc_2 rfl (lv_at hl 2 rfl) ?_
  refine va_mmax hx hb (by rw [hml]; exact hl.1.symm) hown hw1 hw2 hw3 hw4 (Nat.le_of_ble_eq_true rfl) (Nat.le_of_ble_eq_true rfl) (Nat.le_of_ble_eq_true rfl) (Nat.le_of_ble_eq_true rfl) dJ8_newLength_cabcc_3 ?_
  refine lv_iadd hx hb dJ8_newLength_cabcc_6 ?_
  refine lv_istore_n (lv' := [(3, .int (p0 + (if p1 < p2 then p2 else p1))), (0, .int p0), (1, .int p1), (2, .int p2)]) hx hb dJ8_newLength_cabcc_7 rfl hl (by decide) rfl (fun ls hl => ?_)
  refine lv_iconst (v := (0 : Int32)) hx hb dJ8_newLength_cabcc_8 (by decide) ?_
  refine lv_iload_n hx hb dJ8_newLength_cabcc_9 rfl (lv_at hl 0 rfl) ?_
  obtain ⟨ha, hb2⟩ := h
  refine lv_icmp_ge (tgt := 21) hx hb dJ8_newLength_cabcc_10 (by decide) (fun hc => ?_) (fun hc => ?_)
  · replace h := ha hc
    refine lv_iload_n hx hb dJ8_newLength_cabcc_21 rfl (lv_at hl 1 rfl) ?_
    refine lv_iload_n hx hb dJ8_newLength_cabcc_22 rfl (lv_at hl 2 rfl) ?_
    exact h.elim
  · replace h := hb2 hc
    refine lv_iload_n hx hb dJ8_newLength_cabcc_13 rfl (lv_at hl 0 rfl) ?_
    refine lv_ldc (v := (2147483639 : Int32)) hx hb hown hw5 dJ8_newLength_cabcc_14 ?_
    obtain ⟨ha, hb2⟩ := h
    refine lv_icmp_gt (tgt := 21) hx hb dJ8_newLength_cabcc_16 (by decide) (fun hc => ?_) (fun hc => ?_)
    · replace h := ha hc
      refine lv_iload_n hx hb dJ8_newLength_cabcc_21 rfl (lv_at hl 1 rfl) ?_
      refine lv_iload_n hx hb dJ8_newLength_cabcc_22 rfl (lv_at hl 2 rfl) ?_
      exact h.elim
    · replace h := hb2 hc
      refine lv_iload_n hx hb dJ8_newLength_cabcc_19 rfl (lv_at hl 0 rfl) ?_
      exact k_reti hx hb hr hlocks rfl hR hS h dJ8_newLength_cabcc_20

def wp_J5_newCapacity_0f7a4 (G : k_G) (post : Int32 → k_M → Prop) (p0 : Nat) (p1 : Int32) (M0 : k_M) : Prop :=
  (∃ fs1 v2, M0 p0 = some (kO 0 fs1) ∧ fs1[0]? = some (.ref v2) ∧
  (∃ n5 f6, M0 v2 = some (kY G n5 f6) ∧
  (∃ fs8 v9, M0 p0 = some (kO 0 fs8) ∧ fs8[1]? = some (.int v9) ∧
  (∃ fs12 v13, M0 p0 = some (kO 0 fs12) ∧ fs12[1]? = some (.int v13) ∧
  wp_J8_newLength_cabcc G (fun r16 M17 =>
  ((¬ r16 = (2147483647 : Int32) →
  (∃ fs19 v20, M17 p0 = some (kO 0 fs19) ∧ fs19[1]? = some (.int v20) ∧
    post (r16 >>> (v20 &&& 31)) M17)) ∧
  (r16 = (2147483647 : Int32) →
  False))) (nI n5) ((p1 <<< (v9 &&& 31)) - (nI n5)) ((nI n5) + ((2 : Int32) <<< (v13 &&& 31))) M0))))
theorem in_J5_newCapacity_0f7a4_J4 : ∀ w ∈ wsJ40, w ∈ wsJ5_newCapacity_0f7a4 := by decide +kernel
set_option maxHeartbeats 4000000 in
set_option maxRecDepth 100000 in
theorem c_J5_newCapacity_0f7a4 (l : Launch) (G : k_G) (M0 : k_M) (sz : Nat) (post : Int32 → k_M → Prop) (p0 : Nat) (p1 : Int32) (h : wp_J5_newCapacity_0f7a4 G post p0 p1 M0) : Met l yJ5_newCapacity_0f7a4 wsJ5_newCapacity_0f7a4 ({ frames := 2, cells := 0, slots := 0, locals := 39 }) (va_Pc [.ref p0, .int p1] (kPre G M0 sz)) (va_Qi post (kB G M0 sz) (kA M0 sz)) 0 0 (kA M0 sz) := by
  refine Met.ofW (cc := cJ5_newCapacity_0f7a4) (maxL := 6) (ret := (some .int)) (by decide) rfl ?_
  intro p e s m args below meth c s₁ B hml hv
  obtain ⟨rfl, hsz, hR, hE⟩ := hv
  have hx := B.exec
  have hb := B.bytes
  have hr := B.returns
  have hts := atoms_spec (ws := wsJ5_newCapacity_0f7a4) B.pre
  have hown : s.vm.findClass RJ5 = some m.cls := findClass_of_methodNamed B.named
  have hlocks := B.notSynchronized
  subst hsz
  have hK := hE.1
  have hA : ∀ q, s.heap.size ≤ q → kA M0 s.heap.size q := kA.new
  have hS : va_S (kA M0 s.heap.size) s.heap s.heap [] := va_S.rf
  have hw1 := hts (.fieldLink RJ5 15 "java/lang/AbstractStringBuilder" "value" "[B") (by decide +kernel)
  have hw2 := hts (.fieldLink RJ5 22 "java/lang/AbstractStringBuilder" "coder" "B") (by decide +kernel)
  have hw3 := hts (.constant RJ5 39 (2147483647)) (by decide +kernel)
  have hl := lv_entry ([.ref p0, .int p1]) (n := 6) (Nat.le_of_ble_eq_true rfl)
  rw [lg_entry_eq]
  generalize (lg_sl ([.ref p0, .int p1]) ++ List.replicate (6 - (lg_sl ([.ref p0, .int p1])).length) Slot.unset).toArray = ls at hl ⊢
  have hl : lv_has ls 6 [(0, .ref p0), (1, .int p1)] := hl
  have hR0 := hR
  refine lv_aload_n hx hb dJ5_newCapacity_0f7a4_0 rfl (lv_at hl 0 rfl) ?_
  obtain ⟨fs1, v2, hm3, hv4, h⟩ := h
  refine k_get (ci := 0) (C := RJ4) (T := TJ4) (N := 4) hx hb hts in_J5_newCapacity_0f7a4_J4 hown hK hR hm3 rfl 0 (by decide) hw1 (fun _ h9 => h9) hv4 dJ5_newCapacity_0f7a4_1 ?_
  obtain ⟨n5, f6, hm7, h⟩ := h
  refine k_alen hx hb hK hR 3 hm7 rfl dJ5_newCapacity_0f7a4_4 ?_
  refine lv_istore_n (lv' := [(2, .int (nI n5)), (0, .ref p0), (1, .int p1)]) hx hb dJ5_newCapacity_0f7a4_5 rfl hl (by decide) rfl (fun ls hl => ?_)
  refine lv_iload_n hx hb dJ5_newCapacity_0f7a4_6 rfl (lv_at hl 2 rfl) ?_
  refine lv_aload_n hx hb dJ5_newCapacity_0f7a4_7 rfl (lv_at hl 1 rfl) ?_
  obtain ⟨fs8, v9, hm10, hv11, h⟩ := h
  refine k_get (ci := 0) (C := RJ4) (T := TJ4) (N := 4) hx hb hts in_J5_newCapacity_0f7a4_J4 hown hK hR hm10 rfl 1 (by decide) hw2 (fun _ h9 => h9) hv11 dJ5_newCapacity_0f7a4_8 ?_
  refine lv_ishl hx hb dJ5_newCapacity_0f7a4_11 ?_
  refine lv_istore_n (lv' := [(3, .int (p1 <<< (v9 &&& 31))), (2, .int (nI n5)), (0, .ref p0), (1, .int p1)]) hx hb dJ5_newCapacity_0f7a4_12 rfl hl (by decide) rfl (fun ls hl => ?_)
  refine lv_iload_n hx hb dJ5_newCapacity_0f7a4_13 rfl (lv_at hl 0 rfl) ?_
  refine lv_iload_n hx hb dJ5_newCapacity_0f7a4_14 rfl (lv_at hl 1 rfl) ?_
  refine lv_isub hx hb dJ5_newCapacity_0f7a4_15 ?_
  refine lv_istore (lv' := [(4, .int ((p1 <<< (v9 &&& 31)) - (nI n5))), (3, .int (p1 <<< (v9 &&& 31))), (2, .int (nI n5)), (0, .ref p0), (1, .int p1)]) hx hb dJ5_newCapacity_0f7a4_16 hl (by decide) rfl (fun ls hl => ?_)
  refine lv_iload_n hx hb dJ5_newCapacity_0f7a4_18 rfl (lv_at hl 2 rfl) ?_
  refine lv_iload hx hb dJ5_newCapacity_0f7a4_19 (lv_at hl 0 rfl) ?_
  refine lv_iload_n hx hb dJ5_newCapacity_0f7a4_21 rfl (lv_at hl 2 rfl) ?_
  refine lv_iconst (v := (2 : Int32)) hx hb dJ5_newCapacity_0f7a4_22 (by decide) ?_
  refine lv_aload_n hx hb dJ5_newCapacity_0f7a4_23 rfl (lv_at hl 3 rfl) ?_
  obtain ⟨fs12, v13, hm14, hv15, h⟩ := h
  refine k_get (ci := 0) (C := RJ4) (T := TJ4) (N := 4) hx hb hts in_J5_newCapacity_0f7a4_J4 hown hK hR hm14 rfl 1 (by decide) hw2 (fun _ h9 => h9) hv15 dJ5_newCapacity_0f7a4_24 ?_
  refine lv_ishl hx hb dJ5_newCapacity_0f7a4_27 ?_
  refine lv_iadd hx hb dJ5_newCapacity_0f7a4_28 ?_
  refine k_calli0 (va_runS (As := [.int (nI n5), .int ((p1 <<< (v9 &&& 31)) - (nI n5)), .int ((nI n5) + ((2 : Int32) <<< (v13 &&& 31)))]) (rest := []) ⟨hx, hb, hml, hown, hts⟩ (c_J8_newLength_cabcc l G _ _ _ (nI n5) ((p1 <<< (v9 &&& 31)) - (nI n5)) ((nI n5) + ((2 : Int32) <<< (v13 &&& 31))) h) (va_cwS 3 hts gJ5_newCapacity_0f7a4_J8_newLength_cabcc rfl rfl rfl (by decide +kernel) ⟨Nat.le_of_ble_eq_true rfl, Nat.le_of_ble_eq_true rfl⟩) (k_preS hR hS hA hE) rfl rfl hl.1 rfl (lv_room (Nat.le_of_ble_eq_true rfl)) dJ5_newCapacity_0f7a4_29 ⟨Nat.zero_le _, Nat.zero_le _⟩) hR hS hA (fun r16 M17 H locs h hR hS => ?_)
  refine lv_istore (lv' := [(5, .int r16), (4, .int ((p1 <<< (v9 &&& 31)) - (nI n5))), (3, .int (p1 <<< (v9 &&& 31))), (2, .int (nI n5)), (0, .ref p0), (1, .int p1)]) hx hb dJ5_newCapacity_0f7a4_32 hl (by decide) rfl (fun ls hl => ?_)
  refine lv_iload hx hb dJ5_newCapacity_0f7a4_34 (lv_at hl 0 rfl) ?_
  refine lv_ldc (v := (2147483647 : Int32)) hx hb hown hw3 dJ5_newCapacity_0f7a4_36 ?_
  obtain ⟨ha, hb2⟩ := h
  refine lv_icmp_ne (tgt := 51) hx hb dJ5_newCapacity_0f7a4_38 (by decide) (fun hc => ?_) (fun hc => ?_)
  · replace h := ha hc
    refine lv_iload hx hb dJ5_newCapacity_0f7a4_51 (lv_at hl 0 rfl) ?_
    refine lv_aload_n hx hb dJ5_newCapacity_0f7a4_53 rfl (lv_at hl 4 rfl) ?_
    obtain ⟨fs19, v20, hm21, hv22, h⟩ := h
    refine k_get (ci := 0) (C := RJ4) (T := TJ4) (N := 4) hx hb hts in_J5_newCapacity_0f7a4_J4 hown hK hR hm21 rfl 1 (by decide) hw2 (fun _ h9 => h9) hv22 dJ5_newCapacity_0f7a4_54 ?_
    refine lv_ishr hx hb dJ5_newCapacity_0f7a4_57 ?_
    exact k_reti hx hb hr hlocks rfl hR hS h dJ5_newCapacity_0f7a4_58
  · replace h := hb2 hc
    exact h.elim

def wp_J7_copyOf_9075b (G : k_G) (mc ms : Nat) (post : Option Nat → k_M → Prop) (p0 : Nat) (p1 : Int32) (M0 : k_M) : Prop :=
  (∃ n1 f2, M0 p0 = some (kY G n1 f2) ∧
  ((¬ p1 = (nI n1) →
  (∃ N4 : Nat, ¬ p1 < 0 ∧ (p1).toNatClampNeg = N4 ∧ N4 * 1 ≤ 536870912 ∧ 0 + 1 ≤ mc ∧ 0 + N4 ≤ ms ∧ ∀ (q5 : Nat) (M6 : k_M), M0 q5 = none → M6 = va_up M0 q5 (some (kY G N4 (fun _ => 0))) →
    (∃ n12 f13, M6 p0 = some (kY G n12 f13) ∧
    ((0 + 1) ≤ mc ∧ (0 + N4) ≤ ms ∧ (∃ n17 f19 n18 f20, M6 p0 = some (kY G n17 f19) ∧ M6 q5 = some (kY G n18 f20) ∧ ¬ (0 : Int32) < 0 ∧ ¬ (0 : Int32) < 0 ∧ ¬ (if p1 < (nI n12) then p1 else (nI n12)) < 0 ∧ ((0 : Int32)).toNatClampNeg + ((if p1 < (nI n12) then p1 else (nI n12))).toNatClampNeg ≤ n17 ∧ ((0 : Int32)).toNatClampNeg + ((if p1 < (nI n12) then p1 else (nI n12))).toNatClampNeg ≤ n18 ∧ (∀ i : Nat, i < ((if p1 < (nI n12) then p1 else (nI n12))).toNatClampNeg → fits .byte (.int (f19 (((0 : Int32)).toNatClampNeg + i))) = true) ∧ ∀ M21 : k_M, M21 = va_up M6 q5 (some (kY G n18 (va_cpy f19 f20 ((0 : Int32)).toNatClampNeg ((0 : Int32)).toNatClampNeg ((if p1 < (nI n12) then p1 else (nI n12))).toNatClampNeg))) →
    (0 + 1) ≤ mc ∧ (0 + N4) ≤ ms ∧ post (some q5) M21))))) ∧
  (p1 = (nI n1) →
  False)))
set_option maxHeartbeats 4000000 in
set_option maxRecDepth 100000 in
theorem c_J7_copyOf_9075b (l : Launch) (G : k_G) (mc ms : Nat) (M0 : k_M) (sz : Nat) (post : Option Nat → k_M → Prop) (p0 : Nat) (p1 : Int32) (h : wp_J7_copyOf_9075b G mc ms post p0 p1 M0) : Met l yJ7_copyOf_9075b wsJ7_copyOf_9075b ({ frames := 1, cells := mc, slots := ms, locals := 40 }) (va_Pc [.ref p0, .int p1] (kPre G M0 sz)) (va_Qq post (kB G M0 sz) (kA M0 sz)) mc ms (kA M0 sz) := by
  refine Met.ofW (cc := cJ7_copyOf_9075b) (maxL := 3) (ret := (some (.array .byte))) (by decide) rfl ?_
  intro p e s m args below meth c s₁ B hml hv
  obtain ⟨rfl, hsz, hR, hE⟩ := hv
  have hx := B.exec
  have hb := B.bytes
  have hr := B.returns
  have hts := atoms_spec (ws := wsJ7_copyOf_9075b) B.pre
  have hown : s.vm.findClass RJ7 = some m.cls := findClass_of_methodNamed B.named
  have hlocks := B.notSynchronized
  subst hsz
  have hK := hE.1
  have hA : ∀ q, s.heap.size ≤ q → kA M0 s.heap.size q := kA.new
  have hS : va_S (kA M0 s.heap.size) s.heap s.heap [] := va_S.rf
  have hw1 := hts (.arrayClass .byte) (by decide +kernel)
  have hw2 := hts (.methodLink RJ7 304 Lib.Math.min.name) (by decide +kernel)
  have hw3 := hts (.static Lib.Math.min.name) (by decide +kernel)
  have hw4 := hts (.initialized "java/lang/Math") (by decide +kernel)
  have hw5 := hts (.code Lib.Math.min.name Lib.Math.min.code 2 (some .int)) (by decide +kernel)
  have hw6 := hts (.methodLink RJ7 150 arraycopyName) (by decide +kernel)
  have hw7 := hts (.native arraycopyName) (by decide +kernel)
  have hw8 := hts (.static arraycopyName) (by decide +kernel)
  have hw9 := hts (.initialized "java/lang/System") (by decide +kernel)
  have hl := lv_entry ([.ref p0, .int p1]) (n := 3) (Nat.le_of_ble_eq_true rfl)
  rw [lg_entry_eq]
  generalize (lg_sl ([.ref p0, .int p1]) ++ List.replicate (3 - (lg_sl ([.ref p0, .int p1])).length) Slot.unset).toArray = ls at hl ⊢
  have hl : lv_has ls 3 [(0, .ref p0), (1, .int p1)] := hl
  have hR0 := hR
  refine lv_iload_n hx hb dJ7_copyOf_9075b_0 rfl (lv_at hl 1 rfl) ?_
  refine lv_aload_n hx hb dJ7_copyOf_9075b_1 rfl (lv_at hl 0 rfl) ?_
  obtain ⟨n1, f2, hm3, h⟩ := h
  refine k_alen hx hb hK hR 3 hm3 rfl dJ7_copyOf_9075b_2 ?_
  obtain ⟨ha, hb2⟩ := h
  refine lv_icmp_ne (tgt := 14) hx hb dJ7_copyOf_9075b_3 (by decide) (fun hc => ?_) (fun hc => ?_)
  · replace h := ha hc
    refine lv_iload_n hx hb dJ7_copyOf_9075b_14 rfl (lv_at hl 1 rfl) ?_
    obtain ⟨N4, hn7, hn8, hn9, hn10, hn11, h⟩ := h
    refine k_newa (atype := .byte) (ty := .byte) (a0 := (N4, .inl (fun _ => 0))) hx hb hw1 rfl 3 rfl hK hR hS hA (fun _ => rfl) hn7 hn8 hn9 hn10 hn11 dJ7_copyOf_9075b_15 (fun q5 H hq hR hS => ?_)
    replace h := h q5 _ hq rfl
    refine lv_astore_n (lv' := [(2, .ref q5), (0, .ref p0), (1, .int p1)]) hx hb dJ7_copyOf_9075b_17 rfl hl (by decide) rfl (fun ls hl => ?_)
    refine lv_aload_n hx hb dJ7_copyOf_9075b_18 rfl (lv_at hl 1 rfl) ?_
    refine lv_iconst (v := (0 : Int32)) hx hb dJ7_copyOf_9075b_19 (by decide) ?_
    refine lv_aload_n hx hb dJ7_copyOf_9075b_20 rfl (lv_at hl 0 rfl) ?_
    refine lv_iconst (v := (0 : Int32)) hx hb dJ7_copyOf_9075b_21 (by decide) ?_
    refine lv_aload_n hx hb dJ7_copyOf_9075b_22 rfl (lv_at hl 1 rfl) ?_
    obtain ⟨n12, f13, hm14, h⟩ := h
    refine k_alen hx hb hK hR 3 hm14 rfl dJ7_copyOf_9075b_23 ?_
    refine lv_iload_n hx hb dJ7_copyOf_9075b_24 rfl (lv_at hl 2 rfl) ?_
    obtain ⟨hc15, hc16, h⟩ := h
    refine va_mmin hx hb (by rw [hml]; exact hl.1.symm) hown hw2 hw3 hw4 hw5 (Nat.le_of_ble_eq_true rfl) (Nat.le_of_ble_eq_true rfl) hc15 hc16 dJ7_copyOf_9075b_25 ?_
    obtain ⟨n17, f19, n18, f20, hc22, hc23, hc24, hc25, hc26, hc27, hc28, hc29, h⟩ := h
    replace h := h _ rfl
    refine k_copyb hx hb (by rw [hml]; exact hl.1.symm) hown hw6 hw7 hw8 hw9 hK hR hS hc22 hc23 hc24 hc25 hc26 hc27 hc28 hc29 (Nat.le_of_ble_eq_true rfl) (Nat.le_of_ble_eq_true rfl) dJ7_copyOf_9075b_28 (fun H locs hR hS => ?_)
    refine lv_aload_n hx hb dJ7_copyOf_9075b_31 rfl (lv_at hl 0 rfl) ?_
    obtain ⟨hwc, hws, h⟩ := h
    refine W.widen (k := mc) (n := ms) hwc hws ?_
    exact k_retq hx hb hr (by first | exact Or.inl ⟨_, rfl⟩ | exact Or.inr ⟨_, rfl⟩) hlocks hR hS h dJ7_copyOf_9075b_32
  · replace h := hb2 hc
    refine lv_aload_n hx hb dJ7_copyOf_9075b_6 rfl (lv_at hl 0 rfl) ?_
    exact h.elim

def wp_J5_ensureCapacityInternal_d00df (G : k_G) (mc ms : Nat) (post : k_M → Prop) (p0 : Nat) (p1 : Int32) (M0 : k_M) : Prop :=
  (∃ fs1 v2, M0 p0 = some (kO 0 fs1) ∧ fs1[0]? = some (.ref v2) ∧
  (∃ n5 f6, M0 v2 = some (kY G n5 f6) ∧
  (∃ fs8 v9, M0 p0 = some (kO 0 fs8) ∧ fs8[1]? = some (.int v9) ∧
  (((p1 - ((nI n5) >>> (v9 &&& 31))) ≤ 0 →
  0 ≤ mc ∧ 0 ≤ ms ∧ post M0) ∧
  (¬ (p1 - ((nI n5) >>> (v9 &&& 31))) ≤ 0 →
  (∃ fs12 v13, M0 p0 = some (kO 0 fs12) ∧ fs12[0]? = some (.ref v13) ∧
    (∃ fs19, M0 p0 = some (kO 0 fs19) ∧ (0 ≤ mc ∧ 0 ≤ ms ∧ wp_J5_newCapacity_0f7a4 G (fun r16 M17 =>
    (∃ fs22 v23, M17 p0 = some (kO 0 fs22) ∧ fs22[1]? = some (.int v23) ∧
    (∃ mc26 ms27 : Nat, 0 + mc26 ≤ mc ∧ 0 + ms27 ≤ ms ∧ wp_J7_copyOf_9075b G mc26 ms27 (fun r28 M29 => ∃ v33, r28 = some v33 ∧
    (∃ fs34, M29 p0 = some (kO 0 fs34) ∧ 0 < fs34.length ∧ ∀ M35 : k_M, M35 = va_up M29 p0 (some (kO 0 (fs34.set 0 (.ref v33)))) →
    (0 + mc26) ≤ mc ∧ (0 + ms27) ≤ ms ∧ post M35)) v13 (r16 <<< (v23 &&& 31)) M17))) p0 p1 M0))))))))
theorem in_J5_ensureCapacityInternal_d00df_J4 : ∀ w ∈ wsJ40, w ∈ wsJ5_ensureCapacityInternal_d00df := by decide +kernel
set_option maxHeartbeats 4000000 in
set_option maxRecDepth 100000 in
theorem c_J5_ensureCapacityInternal_d00df (l : Launch) (G : k_G) (mc ms : Nat) (M0 : k_M) (sz : Nat) (post : k_M → Prop) (p0 : Nat) (p1 : Int32) (h : wp_J5_ensureCapacityInternal_d00df G mc ms post p0 p1 M0) : Met l yJ5_ensureCapacityInternal_d00df wsJ5_ensureCapacityInternal_d00df ({ frames := 3, cells := mc, slots := ms, locals := 64 }) (va_Pc [.ref p0, .int p1] (kPre G M0 sz)) (va_Qv post (kB G M0 sz) (kA M0 sz)) mc ms (kA M0 sz) := by
  refine Met.ofW (cc := cJ5_ensureCapacityInternal_d00df) (maxL := 3) (ret := none) (by decide) rfl ?_
  intro p e s m args below meth c s₁ B hml hv
  obtain ⟨rfl, hsz, hR, hE⟩ := hv
  have hx := B.exec
  have hb := B.bytes
  have hr := B.returns
  have hts := atoms_spec (ws := wsJ5_ensureCapacityInternal_d00df) B.pre
  have hown : s.vm.findClass RJ5 = some m.cls := findClass_of_methodNamed B.named
  have hlocks := B.notSynchronized
  subst hsz
  have hK := hE.1
  have hA : ∀ q, s.heap.size ≤ q → kA M0 s.heap.size q := kA.new
  have hS : va_S (kA M0 s.heap.size) s.heap s.heap [] := va_S.rf
  have hw1 := hts (.fieldLink RJ5 15 "java/lang/AbstractStringBuilder" "value" "[B") (by decide +kernel)
  have hw2 := hts (.fieldLink RJ5 22 "java/lang/AbstractStringBuilder" "coder" "B") (by decide +kernel)
  have hl := lv_entry ([.ref p0, .int p1]) (n := 3) (Nat.le_of_ble_eq_true rfl)
  rw [lg_entry_eq]
  generalize (lg_sl ([.ref p0, .int p1]) ++ List.replicate (3 - (lg_sl ([.ref p0, .int p1])).length) Slot.unset).toArray = ls at hl ⊢
  have hl : lv_has ls 3 [(0, .ref p0), (1, .int p1)] := hl
  have hR0 := hR
  refine lv_aload_n hx hb dJ5_ensureCapacityInternal_d00df_0 rfl (lv_at hl 0 rfl) ?_
  obtain ⟨fs1, v2, hm3, hv4, h⟩ := h
  refine k_get (ci := 0) (C := RJ4) (T := TJ4) (N := 4) hx hb hts in_J5_ensureCapacityInternal_d00df_J4 hown hK hR hm3 rfl 0 (by decide) hw1 (fun _ h9 => h9) hv4 dJ5_ensureCapacityInternal_d00df_1 ?_
  obtain ⟨n5, f6, hm7, h⟩ := h
  refine k_alen hx hb hK hR 3 hm7 rfl dJ5_ensureCapacityInternal_d00df_4 ?_
  refine lv_aload_n hx hb dJ5_ensureCapacityInternal_d00df_5 rfl (lv_at hl 0 rfl) ?_
  obtain ⟨fs8, v9, hm10, hv11, h⟩ := h
  refine k_get (ci := 0) (C := RJ4) (T := TJ4) (N := 4) hx hb hts in_J5_ensureCapacityInternal_d00df_J4 hown hK hR hm10 rfl 1 (by decide) hw2 (fun _ h9 => h9) hv11 dJ5_ensureCapacityInternal_d00df_6 ?_
  refine lv_ishr hx hb dJ5_ensureCapacityInternal_d00df_9 ?_
  refine lv_istore_n (lv' := [(2, .int ((nI n5) >>> (v9 &&& 31))), (0, .ref p0), (1, .int p1)]) hx hb dJ5_ensureCapacityInternal_d00df_10 rfl hl (by decide) rfl (fun ls hl => ?_)
  refine lv_iload_n hx hb dJ5_ensureCapacityInternal_d00df_11 rfl (lv_at hl 2 rfl) ?_
  refine lv_iload_n hx hb dJ5_ensureCapacityInternal_d00df_12 rfl (lv_at hl 0 rfl) ?_
  refine lv_isub hx hb dJ5_ensureCapacityInternal_d00df_13 ?_
  obtain ⟨ha, hb2⟩ := h
  refine lv_if_le (tgt := 38) hx hb dJ5_ensureCapacityInternal_d00df_14 (by decide) (fun hc => ?_) (fun hc => ?_)
  · replace h := ha hc
    obtain ⟨hwc, hws, h⟩ := h
    refine W.widen (k := mc) (n := ms) hwc hws ?_
    exact k_retv hx hb hr hlocks hR hS h dJ5_ensureCapacityInternal_d00df_38
  · replace h := hb2 hc
    refine lv_aload_n hx hb dJ5_ensureCapacityInternal_d00df_17 rfl (lv_at hl 1 rfl) ?_
    refine lv_aload_n hx hb dJ5_ensureCapacityInternal_d00df_18 rfl (lv_at hl 1 rfl) ?_
    obtain ⟨fs12, v13, hm14, hv15, h⟩ := h
    refine k_get (ci := 0) (C := RJ4) (T := TJ4) (N := 4) hx hb hts in_J5_ensureCapacityInternal_d00df_J4 hown hK hR hm14 rfl 0 (by decide) hw1 (fun _ h9 => h9) hv15 dJ5_ensureCapacityInternal_d00df_19 ?_
    refine lv_aload_n hx hb dJ5_ensureCapacityInternal_d00df_22 rfl (lv_at hl 1 rfl) ?_
    refine lv_iload_n hx hb dJ5_ensureCapacityInternal_d00df_23 rfl (lv_at hl 2 rfl) ?_
    obtain ⟨fs19, hm18, h⟩ := h
    obtain ⟨hc20, hc21, h⟩ := h
    refine k_calli0 (va_runU (As := [.int p1]) (rest := [.ref v13, .ref p0]) ⟨hx, hb, hml, hown, hts⟩ (c_J5_newCapacity_0f7a4 l G _ _ _ p0 p1 h) (va_cwU 1 hts gJ5_ensureCapacityInternal_d00df_J5_newCapacity_0f7a4_u104J4 rfl rfl rfl rfl (by decide +kernel) ⟨Nat.le_of_ble_eq_true rfl, Nat.le_of_ble_eq_true rfl⟩) (k_preV (q := (RJ4, TJ4, 4)) hm18 rfl hR hS hA hE) rfl rfl hl.1 rfl (lv_room (Nat.le_of_ble_eq_true rfl)) dJ5_ensureCapacityInternal_d00df_24 ⟨hc20, hc21⟩) hR hS hA (fun r16 M17 H locs h hR hS => ?_)
    refine lv_aload_n hx hb dJ5_ensureCapacityInternal_d00df_27 rfl (lv_at hl 1 rfl) ?_
    obtain ⟨fs22, v23, hm24, hv25, h⟩ := h
    refine k_get (ci := 0) (C := RJ4) (T := TJ4) (N := 4) hx hb hts in_J5_ensureCapacityInternal_d00df_J4 hown hK hR hm24 rfl 1 (by decide) hw2 (fun _ h9 => h9) hv25 dJ5_ensureCapacityInternal_d00df_28 ?_
    refine lv_ishl hx hb dJ5_ensureCapacityInternal_d00df_31 ?_
    obtain ⟨mc26, ms27, hc31, hc32, h⟩ := h
    refine k_callq (va_runS (As := [.ref v13, .int (r16 <<< (v23 &&& 31))]) (rest := [.ref p0]) ⟨hx, hb, hml, hown, hts⟩ (c_J7_copyOf_9075b l G mc26 ms27 _ _ _ v13 (r16 <<< (v23 &&& 31)) h) (va_cwS 2 hts gJ5_ensureCapacityInternal_d00df_J7_copyOf_9075b rfl rfl rfl (by decide +kernel) ⟨Nat.le_of_ble_eq_true rfl, Nat.le_of_ble_eq_true rfl⟩) (k_preS hR hS hA hE) rfl rfl hl.1 rfl (lv_room (Nat.le_of_ble_eq_true rfl)) dJ5_ensureCapacityInternal_d00df_32 ⟨hc31, hc32⟩) hR hS hA (fun r28 M29 H locs h hR hS => ?_)
    obtain ⟨v33, rfl, h⟩ := h
    obtain ⟨fs34, hm36, hk37, h⟩ := h
    replace h := h _ rfl
    refine k_put (ci := 0) (v := .ref v33) (ty := .array .byte) (C := RJ4) (T := TJ4) (N := 4) hx hb hts in_J5_ensureCapacityInternal_d00df_J4 tyJ4 tyJ4_ok nmJ4 hown hK hR hS hm36 rfl 0 (by decide) hw1 (fun _ h9 => h9) rfl (by decide +kernel) rfl rfl hk37 dJ5_ensureCapacityInternal_d00df_35 (fun H locs hR hS => ?_)
    obtain ⟨hwc, hws, h⟩ := h
    refine W.widen (k := mc) (n := ms) hwc hws ?_
    exact k_retv hx hb hr hlocks hR hS h dJ5_ensureCapacityInternal_d00df_38

def wp_J5_isLatin1_aae02 (G : k_G) (post : Int32 → k_M → Prop) (p0 : Nat) (M0 : k_M) : Prop :=
  (((1 : Int32) = 0 →
  post (0 : Int32) M0) ∧
  (¬ (1 : Int32) = 0 →
  (∃ fs1 v2, M0 p0 = some (kO 0 fs1) ∧ fs1[1]? = some (.int v2) ∧
    ((¬ v2 = 0 →
    post (0 : Int32) M0) ∧
    (v2 = 0 →
    post (1 : Int32) M0)))))
theorem in_J5_isLatin1_aae02_J4 : ∀ w ∈ wsJ40, w ∈ wsJ5_isLatin1_aae02 := by decide +kernel
set_option maxHeartbeats 4000000 in
set_option maxRecDepth 100000 in
theorem c_J5_isLatin1_aae02 (l : Launch) (G : k_G) (M0 : k_M) (sz : Nat) (post : Int32 → k_M → Prop) (p0 : Nat) (h : wp_J5_isLatin1_aae02 G post p0 M0) : Met l yJ5_isLatin1_aae02 wsJ5_isLatin1_aae02 ({ frames := 0, cells := 0, slots := 0, locals := 0 }) (va_Pc [.ref p0] (kPre G M0 sz)) (va_Qi post (kB G M0 sz) (kA M0 sz)) 0 0 (kA M0 sz) := by
  refine Met.ofW (cc := cJ5_isLatin1_aae02) (maxL := 1) (ret := (some .boolean)) (by decide) rfl ?_
  intro p e s m args below meth c s₁ B hml hv
  obtain ⟨rfl, hsz, hR, hE⟩ := hv
  have hx := B.exec
  have hb := B.bytes
  have hr := B.returns
  have hts := atoms_spec (ws := wsJ5_isLatin1_aae02) B.pre
  have hown : s.vm.findClass RJ5 = some m.cls := findClass_of_methodNamed B.named
  have hlocks := B.notSynchronized
  subst hsz
  have hK := hE.1
  have hA : ∀ q, s.heap.size ≤ q → kA M0 s.heap.size q := kA.new
  have hS : va_S (kA M0 s.heap.size) s.heap s.heap [] := va_S.rf
  have hw1 := hts (.fieldLink RJ5 18 "java/lang/String" "COMPACT_STRINGS" "Z") (by decide +kernel)
  have hw2 := hts (.fieldLink RJ5 22 "java/lang/AbstractStringBuilder" "coder" "B") (by decide +kernel)
  have hl := lv_entry ([.ref p0]) (n := 1) (Nat.le_of_ble_eq_true rfl)
  rw [lg_entry_eq]
  generalize (lg_sl ([.ref p0]) ++ List.replicate (1 - (lg_sl ([.ref p0])).length) Slot.unset).toArray = ls at hl ⊢
  have hl : lv_has ls 1 [(0, .ref p0)] := hl
  have hR0 := hR
  refine va_gets (v := .int 1) hx hb hE.2.1.1 hS hown hw1 (fun _ h9 => h9) dJ5_isLatin1_aae02_0 ?_
  obtain ⟨ha, hb2⟩ := h
  refine lv_if_eq (tgt := 17) hx hb dJ5_isLatin1_aae02_3 (by decide) (fun hc => ?_) (fun hc => ?_)
  · replace h := ha hc
    refine lv_iconst (v := (0 : Int32)) hx hb dJ5_isLatin1_aae02_17 (by decide) ?_
    exact k_reti hx hb hr hlocks (by decide) hR hS h dJ5_isLatin1_aae02_18
  · replace h := hb2 hc
    refine lv_aload_n hx hb dJ5_isLatin1_aae02_6 rfl (lv_at hl 0 rfl) ?_
    obtain ⟨fs1, v2, hm3, hv4, h⟩ := h
    refine k_get (ci := 0) (C := RJ4) (T := TJ4) (N := 4) hx hb hts in_J5_isLatin1_aae02_J4 hown hK hR hm3 rfl 1 (by decide) hw2 (fun _ h9 => h9) hv4 dJ5_isLatin1_aae02_7 ?_
    obtain ⟨ha, hb2⟩ := h
    refine lv_if_ne (tgt := 17) hx hb dJ5_isLatin1_aae02_10 (by decide) (fun hc => ?_) (fun hc => ?_)
    · replace h := ha hc
      refine lv_iconst (v := (0 : Int32)) hx hb dJ5_isLatin1_aae02_17 (by decide) ?_
      exact k_reti hx hb hr hlocks (by decide) hR hS h dJ5_isLatin1_aae02_18
    · replace h := hb2 hc
      refine lv_iconst (v := (1 : Int32)) hx hb dJ5_isLatin1_aae02_13 (by decide) ?_
      refine lv_goto (tgt := 18) hx hb dJ5_isLatin1_aae02_14 (by decide) ?_
      exact k_reti hx hb hr hlocks (by decide) hR hS h dJ5_isLatin1_aae02_18

def wp_J5_setLength_d00df_b76 (G : k_G) (mc ms : Nat) (post : k_M → Prop) (x0 : Nat) (x1 : Int32) (kc : Nat) (ks : Nat) (M : k_M) : Prop :=
  (∃ fs17, M x0 = some (kO 0 fs17) ∧ 3 < fs17.length ∧ ∀ M18 : k_M, M18 = va_up M x0 (some (kO 0 (fs17.set 3 (.int x1)))) →
    kc ≤ mc ∧ ks ≤ ms ∧ post M18)
def wp_J5_setLength_d00df (G : k_G) (mc ms : Nat) (post : k_M → Prop) (p0 : Nat) (p1 : Int32) (M0 : k_M) : Prop :=
  ((0 ≤ p1 →
  (∃ fs6, M0 p0 = some (kO 0 fs6) ∧ (∃ mc1 ms2 : Nat, 0 + mc1 ≤ mc ∧ 0 + ms2 ≤ ms ∧ wp_J5_ensureCapacityInternal_d00df G mc1 ms2 (fun M4 =>
    (∃ fs9 v10, M4 p0 = some (kO 0 fs9) ∧ fs9[3]? = some (.int v10) ∧
    ((p1 ≤ v10 →
    (∃ fs13 v14, M4 p0 = some (kO 0 fs13) ∧ fs13[3]? = some (.int v14) ∧
      ((v14 ≤ p1 →
      wp_J5_setLength_d00df_b76 G mc ms post p0 p1 (0 + mc1) (0 + ms2) M4) ∧
      (¬ v14 ≤ p1 →
      (narrow .boolean (.int (1 : Int32)) = .int (1 : Int32) ∧ fits .boolean (.int (1 : Int32)) = true ∧
        (∃ fs21, M4 p0 = some (kO 0 fs21) ∧ 2 < fs21.length ∧ ∀ M22 : k_M, M22 = va_up M4 p0 (some (kO 0 (fs21.set 2 (.int (1 : Int32))))) →
        wp_J5_setLength_d00df_b76 G mc ms post p0 p1 (0 + mc1) (0 + ms2) M22)))))) ∧
    (¬ p1 ≤ v10 →
    (∃ fs30, M4 p0 = some (kO 0 fs30) ∧ ((0 + mc1) ≤ mc ∧ (0 + ms2) ≤ ms ∧ wp_J5_isLatin1_aae02 G (fun r27 M28 =>
      ((r27 = 0 →
      (∃ fs33 v34, M28 p0 = some (kO 0 fs33) ∧ fs33[0]? = some (.ref v34) ∧
        (∃ fs37 v38, M28 p0 = some (kO 0 fs37) ∧ fs37[3]? = some (.int v38) ∧
        False))) ∧
      (¬ r27 = 0 →
      (∃ fs41 v42, M28 p0 = some (kO 0 fs41) ∧ fs41[0]? = some (.ref v42) ∧
        (∃ fs45 v46, M28 p0 = some (kO 0 fs45) ∧ fs45[3]? = some (.int v46) ∧
        False))))) p0 M4)))))) p0 p1 M0))) ∧
  (¬ 0 ≤ p1 →
  False))
theorem in_J5_setLength_d00df_J4 : ∀ w ∈ wsJ40, w ∈ wsJ5_setLength_d00df := by decide +kernel
set_option maxHeartbeats 4000000 in
set_option maxRecDepth 100000 in
theorem c_J5_setLength_d00df (l : Launch) (G : k_G) (mc ms : Nat) (M0 : k_M) (sz : Nat) (post : k_M → Prop) (p0 : Nat) (p1 : Int32) (h : wp_J5_setLength_d00df G mc ms post p0 p1 M0) : Met l yJ5_setLength_d00df wsJ5_setLength_d00df ({ frames := 4, cells := mc, slots := ms, locals := 86 }) (va_Pc [.ref p0, .int p1] (kPre G M0 sz)) (va_Qv post (kB G M0 sz) (kA M0 sz)) mc ms (kA M0 sz) := by
  refine Met.ofW (cc := cJ5_setLength_d00df) (maxL := 2) (ret := none) (by decide) rfl ?_
  intro p e s m args below meth c s₁ B hml hv
  obtain ⟨rfl, hsz, hR, hE⟩ := hv
  have hx := B.exec
  have hb := B.bytes
  have hr := B.returns
  have hts := atoms_spec (ws := wsJ5_setLength_d00df) B.pre
  have hown : s.vm.findClass RJ5 = some m.cls := findClass_of_methodNamed B.named
  have hlocks := B.notSynchronized
  subst hsz
  have hK := hE.1
  have hA : ∀ q, s.heap.size ≤ q → kA M0 s.heap.size q := kA.new
  have hS : va_S (kA M0 s.heap.size) s.heap s.heap [] := va_S.rf
  have hw1 := hts (.fieldLink RJ5 79 "java/lang/AbstractStringBuilder" "count" "I") (by decide +kernel)
  have hw2 := hts (.fieldLink RJ5 73 "java/lang/AbstractStringBuilder" "maybeLatin1" "Z") (by decide +kernel)
  have hw3 := hts (.fieldLink RJ5 15 "java/lang/AbstractStringBuilder" "value" "[B") (by decide +kernel)
  have b76 : ∀ (x0 : Nat) (x1 : Int32) (kc : Nat) (ks : Nat) (M : k_M) (H : Heap) (locs : List Loc) (ls : Array Slot), wp_J5_setLength_d00df_b76 G mc ms post x0 x1 kc ks M → lv_has ls 2 [(0, .ref x0), (1, .int x1)] → kR G M (kA M0 s.heap.size) H → va_S (kA M0 s.heap.size) s.heap H locs → W p l e (headSpec wsJ5_setLength_d00df ({ frames := 4, cells := mc, slots := ms, locals := 86 })).room s m ([.ref p0, .int p1] : List Value).toArray below meth c H locs kc ks (MQ below (va_Qv post (kB G M0 s.heap.size) (kA M0 s.heap.size)) ([.ref p0, .int p1] : List Value).toArray s mc ms (kA M0 s.heap.size)) (F0 m 76 ls []) := by
    intro x0 x1 kc ks M H locs ls h hl hR hS
    refine lv_aload_n hx hb dJ5_setLength_d00df_76 rfl (lv_at hl 0 rfl) ?_
    refine lv_iload_n hx hb dJ5_setLength_d00df_77 rfl (lv_at hl 1 rfl) ?_
    obtain ⟨fs17, hm19, hk20, h⟩ := h
    replace h := h _ rfl
    refine k_put (ci := 0) (v := .int x1) (ty := .int) (C := RJ4) (T := TJ4) (N := 4) hx hb hts in_J5_setLength_d00df_J4 tyJ4 tyJ4_ok nmJ4 hown hK hR hS hm19 rfl 3 (by decide) hw1 (fun _ h9 => h9) rfl (by decide +kernel) rfl rfl hk20 dJ5_setLength_d00df_78 (fun H locs hR hS => ?_)
    obtain ⟨hwc, hws, h⟩ := h
    refine W.widen (k := mc) (n := ms) hwc hws ?_
    exact k_retv hx hb hr hlocks hR hS h dJ5_setLength_d00df_81
  have hl := lv_entry ([.ref p0, .int p1]) (n := 2) (Nat.le_of_ble_eq_true rfl)
  rw [lg_entry_eq]
  generalize (lg_sl ([.ref p0, .int p1]) ++ List.replicate (2 - (lg_sl ([.ref p0, .int p1])).length) Slot.unset).toArray = ls at hl ⊢
  have hl : lv_has ls 2 [(0, .ref p0), (1, .int p1)] := hl
  have hR0 := hR
  refine lv_iload_n hx hb dJ5_setLength_d00df_0 rfl (lv_at hl 1 rfl) ?_
  obtain ⟨ha, hb2⟩ := h
  refine lv_if_ge (tgt := 13) hx hb dJ5_setLength_d00df_1 (by decide) (fun hc => ?_) (fun hc => ?_)
  · replace h := ha hc
    refine lv_aload_n hx hb dJ5_setLength_d00df_13 rfl (lv_at hl 0 rfl) ?_
    refine lv_iload_n hx hb dJ5_setLength_d00df_14 rfl (lv_at hl 1 rfl) ?_
    obtain ⟨fs6, hm5, h⟩ := h
    obtain ⟨mc1, ms2, hc7, hc8, h⟩ := h
    refine k_callv (va_runU (As := [.int p1]) (rest := []) ⟨hx, hb, hml, hown, hts⟩ (c_J5_ensureCapacityInternal_d00df l G mc1 ms2 _ _ _ p0 p1 h) (va_cwU 1 hts gJ5_setLength_d00df_J5_ensureCapacityInternal_d00df_u100J4 rfl rfl rfl rfl (by decide +kernel) ⟨Nat.le_of_ble_eq_true rfl, Nat.le_of_ble_eq_true rfl⟩) (k_preV (q := (RJ4, TJ4, 4)) hm5 rfl hR hS hA hE) rfl rfl hl.1 rfl (lv_room (Nat.le_of_ble_eq_true rfl)) dJ5_setLength_d00df_15 ⟨hc7, hc8⟩) hR hS hA (fun M4 H locs h hR hS => ?_)
    refine lv_aload_n hx hb dJ5_setLength_d00df_18 rfl (lv_at hl 0 rfl) ?_
    obtain ⟨fs9, v10, hm11, hv12, h⟩ := h
    refine k_get (ci := 0) (C := RJ4) (T := TJ4) (N := 4) hx hb hts in_J5_setLength_d00df_J4 hown hK hR hm11 rfl 3 (by decide) hw1 (fun _ h9 => h9) hv12 dJ5_setLength_d00df_19 ?_
    refine lv_iload_n hx hb dJ5_setLength_d00df_22 rfl (lv_at hl 1 rfl) ?_
    obtain ⟨ha, hb2⟩ := h
    refine lv_icmp_ge (tgt := 63) hx hb dJ5_setLength_d00df_23 (by decide) (fun hc => ?_) (fun hc => ?_)
    · replace h := ha hc
      refine lv_aload_n hx hb dJ5_setLength_d00df_63 rfl (lv_at hl 0 rfl) ?_
      obtain ⟨fs13, v14, hm15, hv16, h⟩ := h
      refine k_get (ci := 0) (C := RJ4) (T := TJ4) (N := 4) hx hb hts in_J5_setLength_d00df_J4 hown hK hR hm15 rfl 3 (by decide) hw1 (fun _ h9 => h9) hv16 dJ5_setLength_d00df_64 ?_
      refine lv_iload_n hx hb dJ5_setLength_d00df_67 rfl (lv_at hl 1 rfl) ?_
      obtain ⟨ha, hb2⟩ := h
      refine lv_icmp_le (tgt := 76) hx hb dJ5_setLength_d00df_68 (by decide) (fun hc => ?_) (fun hc => ?_)
      · replace h := ha hc
        exact b76 _ _ _ _ _ _ _ _ h (lv_sub hl [0, 1] rfl) hR hS
      · replace h := hb2 hc
        refine lv_aload_n hx hb dJ5_setLength_d00df_71 rfl (lv_at hl 0 rfl) ?_
        refine lv_iconst (v := (1 : Int32)) hx hb dJ5_setLength_d00df_72 (by decide) ?_
        obtain ⟨hn25, hf26, h⟩ := h
        obtain ⟨fs21, hm23, hk24, h⟩ := h
        replace h := h _ rfl
        refine k_put (ci := 0) (v := .int (1 : Int32)) (ty := .boolean) (C := RJ4) (T := TJ4) (N := 4) hx hb hts in_J5_setLength_d00df_J4 tyJ4 tyJ4_ok nmJ4 hown hK hR hS hm23 rfl 2 (by decide) hw2 (fun _ h9 => h9) rfl (by decide +kernel) hn25 hf26 hk24 dJ5_setLength_d00df_73 (fun H locs hR hS => ?_)
        exact b76 _ _ _ _ _ _ _ _ h (lv_sub hl [0, 1] rfl) hR hS
    · replace h := hb2 hc
      refine lv_aload_n hx hb dJ5_setLength_d00df_26 rfl (lv_at hl 0 rfl) ?_
      obtain ⟨fs30, hm29, h⟩ := h
      obtain ⟨hc31, hc32, h⟩ := h
      refine k_calli0 (va_runU (As := []) (rest := []) ⟨hx, hb, hml, hown, hts⟩ (c_J5_isLatin1_aae02 l G _ _ _ p0 h) (va_cwU 0 hts gJ5_setLength_d00df_J5_isLatin1_aae02_u83J4 rfl rfl rfl rfl (by decide +kernel) ⟨Nat.le_of_ble_eq_true rfl, Nat.le_of_ble_eq_true rfl⟩) (k_preV (q := (RJ4, TJ4, 4)) hm29 rfl hR hS hA hE) rfl rfl hl.1 rfl (lv_room (Nat.le_of_ble_eq_true rfl)) dJ5_setLength_d00df_27 ⟨hc31, hc32⟩) hR hS hA (fun r27 M28 H locs h hR hS => ?_)
      obtain ⟨ha, hb2⟩ := h
      refine lv_if_eq (tgt := 48) hx hb dJ5_setLength_d00df_30 (by decide) (fun hc => ?_) (fun hc => ?_)
      · replace h := ha hc
        refine lv_aload_n hx hb dJ5_setLength_d00df_48 rfl (lv_at hl 0 rfl) ?_
        obtain ⟨fs33, v34, hm35, hv36, h⟩ := h
        refine k_get (ci := 0) (C := RJ4) (T := TJ4) (N := 4) hx hb hts in_J5_setLength_d00df_J4 hown hK hR hm35 rfl 0 (by decide) hw3 (fun _ h9 => h9) hv36 dJ5_setLength_d00df_49 ?_
        refine lv_aload_n hx hb dJ5_setLength_d00df_52 rfl (lv_at hl 0 rfl) ?_
        obtain ⟨fs37, v38, hm39, hv40, h⟩ := h
        refine k_get (ci := 0) (C := RJ4) (T := TJ4) (N := 4) hx hb hts in_J5_setLength_d00df_J4 hown hK hR hm39 rfl 3 (by decide) hw1 (fun _ h9 => h9) hv40 dJ5_setLength_d00df_53 ?_
        refine lv_iload_n hx hb dJ5_setLength_d00df_56 rfl (lv_at hl 1 rfl) ?_
        exact h.elim
      · replace h := hb2 hc
        refine lv_aload_n hx hb dJ5_setLength_d00df_33 rfl (lv_at hl 0 rfl) ?_
        obtain ⟨fs41, v42, hm43, hv44, h⟩ := h
        refine k_get (ci := 0) (C := RJ4) (T := TJ4) (N := 4) hx hb hts in_J5_setLength_d00df_J4 hown hK hR hm43 rfl 0 (by decide) hw3 (fun _ h9 => h9) hv44 dJ5_setLength_d00df_34 ?_
        refine lv_aload_n hx hb dJ5_setLength_d00df_37 rfl (lv_at hl 0 rfl) ?_
        obtain ⟨fs45, v46, hm47, hv48, h⟩ := h
        refine k_get (ci := 0) (C := RJ4) (T := TJ4) (N := 4) hx hb hts in_J5_setLength_d00df_J4 hown hK hR hm47 rfl 3 (by decide) hw1 (fun _ h9 => h9) hv48 dJ5_setLength_d00df_38 ?_
        refine lv_iload_n hx hb dJ5_setLength_d00df_41 rfl (lv_at hl 1 rfl) ?_
        exact h.elim
  · replace h := hb2 hc
    exact h.elim

def wp_J4_setLength_d00df (G : k_G) (mc ms : Nat) (post : k_M → Prop) (p0 : Nat) (p1 : Int32) (M0 : k_M) : Prop :=
  (∃ fs6, M0 p0 = some (kO 0 fs6) ∧ (∃ mc1 ms2 : Nat, 0 + mc1 ≤ mc ∧ 0 + ms2 ≤ ms ∧ wp_J5_setLength_d00df G mc1 ms2 (fun M4 =>
  (0 + mc1) ≤ mc ∧ (0 + ms2) ≤ ms ∧ post M4) p0 p1 M0))
set_option maxHeartbeats 4000000 in
set_option maxRecDepth 100000 in
theorem c_J4_setLength_d00df (l : Launch) (G : k_G) (mc ms : Nat) (M0 : k_M) (sz : Nat) (post : k_M → Prop) (p0 : Nat) (p1 : Int32) (h : wp_J4_setLength_d00df G mc ms post p0 p1 M0) : Met l yJ4_setLength_d00df wsJ4_setLength_d00df ({ frames := 5, cells := mc, slots := ms, locals := 107 }) (va_Pc [.ref p0, .int p1] (kPre G M0 sz)) (va_Qv post (kB G M0 sz) (kA M0 sz)) mc ms (kA M0 sz) := by
  refine Met.ofW (cc := cJ4_setLength_d00df) (maxL := 2) (ret := none) (by decide) rfl ?_
  intro p e s m args below meth c s₁ B hml hv
  obtain ⟨rfl, hsz, hR, hE⟩ := hv
  have hx := B.exec
  have hb := B.bytes
  have hr := B.returns
  have hts := atoms_spec (ws := wsJ4_setLength_d00df) B.pre
  have hown : s.vm.findClass RJ4 = some m.cls := findClass_of_methodNamed B.named
  have hlocks := B.notSynchronized
  subst hsz
  have hK := hE.1
  have hA : ∀ q, s.heap.size ≤ q → kA M0 s.heap.size q := kA.new
  have hS : va_S (kA M0 s.heap.size) s.heap s.heap [] := va_S.rf
  have hl := lv_entry ([.ref p0, .int p1]) (n := 2) (Nat.le_of_ble_eq_true rfl)
  rw [lg_entry_eq]
  generalize (lg_sl ([.ref p0, .int p1]) ++ List.replicate (2 - (lg_sl ([.ref p0, .int p1])).length) Slot.unset).toArray = ls at hl ⊢
  have hl : lv_has ls 2 [(0, .ref p0), (1, .int p1)] := hl
  have hR0 := hR
  refine lv_aload_n hx hb dJ4_setLength_d00df_0 rfl (lv_at hl 0 rfl) ?_
  refine lv_iload_n hx hb dJ4_setLength_d00df_1 rfl (lv_at hl 1 rfl) ?_
  obtain ⟨fs6, hm5, h⟩ := h
  obtain ⟨mc1, ms2, hc7, hc8, h⟩ := h
  refine k_callv (va_runSU (As := [.int p1]) (rest := []) (hK.1 0 (RJ4, TJ4, 4) rfl).2 ⟨hx, hb, hml, hown, hts⟩ (c_J5_setLength_d00df l G mc1 ms2 _ _ _ p0 p1 h) (va_cwSU 1 hts gJ4_setLength_d00df_J5_setLength_d00df_s333 rfl rfl rfl (by decide +kernel) ⟨Nat.le_of_ble_eq_true rfl, Nat.le_of_ble_eq_true rfl⟩) (k_preV (q := (RJ4, TJ4, 4)) hm5 rfl hR hS hA hE) rfl rfl hl.1 rfl (lv_room (Nat.le_of_ble_eq_true rfl)) dJ4_setLength_d00df_2 ⟨hc7, hc8⟩) hR hS hA (fun M4 H locs h hR hS => ?_)
  obtain ⟨hwc, hws, h⟩ := h
  refine W.widen (k := mc) (n := ms) hwc hws ?_
  exact k_retv hx hb hr hlocks hR hS h dJ4_setLength_d00df_5

def wp_J1_canEncode_fc78d (G : k_G) (post : Int32 → k_M → Prop) (p0 : Int32) (M0 : k_M) : Prop :=
  (((255 : Int32) < p0 →
  post (0 : Int32) M0) ∧
  (¬ (255 : Int32) < p0 →
  post (1 : Int32) M0))
set_option maxHeartbeats 4000000 in
set_option maxRecDepth 100000 in
theorem c_J1_canEncode_fc78d (l : Launch) (G : k_G) (M0 : k_M) (sz : Nat) (post : Int32 → k_M → Prop) (p0 : Int32) (h : wp_J1_canEncode_fc78d G post p0 M0) : Met l yJ1_canEncode_fc78d wsJ1_canEncode_fc78d ({ frames := 0, cells := 0, slots := 0, locals := 0 }) (va_Pc [.int p0] (kPre G M0 sz)) (va_Qi post (kB G M0 sz) (kA M0 sz)) 0 0 (kA M0 sz) := by
  refine Met.ofW (cc := cJ1_canEncode_fc78d) (maxL := 1) (ret := (some .boolean)) (by decide) rfl ?_
  intro p e s m args below meth c s₁ B hml hv
  obtain ⟨rfl, hsz, hR, hE⟩ := hv
  have hx := B.exec
  have hb := B.bytes
  have hr := B.returns
  have hts := atoms_spec (ws := wsJ1_canEncode_fc78d) B.pre
  have hown : s.vm.findClass RJ1 = some m.cls := findClass_of_methodNamed B.named
  have hlocks := B.notSynchronized
  subst hsz
  have hK := hE.1
  have hA : ∀ q, s.heap.size ≤ q → kA M0 s.heap.size q := kA.new
  have hS : va_S (kA M0 s.heap.size) s.heap s.heap [] := va_S.rf
  have hl := lv_entry ([.int p0]) (n := 1) (Nat.le_of_ble_eq_true rfl)
  rw [lg_entry_eq]
  generalize (lg_sl ([.int p0]) ++ List.replicate (1 - (lg_sl ([.int p0])).length) Slot.unset).toArray = ls at hl ⊢
  have hl : lv_has ls 1 [(0, .int p0)] := hl
  have hR0 := hR
  refine lv_iload_n hx hb dJ1_canEncode_fc78d_0 rfl (lv_at hl 0 rfl) ?_
  refine lv_sipush (v := (255 : Int32)) hx hb dJ1_canEncode_fc78d_1 (by decide) ?_
  obtain ⟨ha, hb2⟩ := h
  refine lv_icmp_gt (tgt := 11) hx hb dJ1_canEncode_fc78d_4 (by decide) (fun hc => ?_) (fun hc => ?_)
  · replace h := ha hc
    refine lv_iconst (v := (0 : Int32)) hx hb dJ1_canEncode_fc78d_11 (by decide) ?_
    exact k_reti hx hb hr hlocks (by decide) hR hS h dJ1_canEncode_fc78d_12
  · replace h := hb2 hc
    refine lv_iconst (v := (1 : Int32)) hx hb dJ1_canEncode_fc78d_7 (by decide) ?_
    refine lv_goto (tgt := 12) hx hb dJ1_canEncode_fc78d_8 (by decide) ?_
    exact k_reti hx hb hr hlocks (by decide) hR hS h dJ1_canEncode_fc78d_12

def wp_J5_append_3fe6f_b56 (G : k_G) (mc ms : Nat) (post : Option Nat → k_M → Prop) (x0 : Nat) (x1 : Int32) (kc : Nat) (ks : Nat) (M : k_M) : Prop :=
  (∃ fs25 v26, M x0 = some (kO 0 fs25) ∧ fs25[0]? = some (.ref v26) ∧
    (∃ fs29 v30, M x0 = some (kO 0 fs29) ∧ fs29[3]? = some (.int v30) ∧
    (∃ fs33, M x0 = some (kO 0 fs33) ∧ 3 < fs33.length ∧ ∀ M34 : k_M, M34 = va_up M x0 (some (kO 0 (fs33.set 3 (.int (v30 + (1 : Int32)))))) →
    False)))
def wp_J5_append_3fe6f_b45 (G : k_G) (mc ms : Nat) (post : Option Nat → k_M → Prop) (x0 : Nat) (x1 : Int32) (kc : Nat) (ks : Nat) (M : k_M) : Prop :=
  (∃ fs22, M x0 = some (kO 0 fs22) ∧ (kc ≤ mc ∧ ks ≤ ms ∧ wp_J5_isLatin1_aae02 G (fun r19 M20 =>
    ((r19 = 0 →
    wp_J5_append_3fe6f_b56 G mc ms post x0 x1 kc ks M20) ∧
    (¬ r19 = 0 →
    False))) x0 M))
def wp_J5_append_3fe6f (G : k_G) (mc ms : Nat) (post : Option Nat → k_M → Prop) (p0 : Nat) (p1 : Int32) (M0 : k_M) : Prop :=
  (∃ fs1 v2, M0 p0 = some (kO 0 fs1) ∧ fs1[3]? = some (.int v2) ∧
  (∃ fs10, M0 p0 = some (kO 0 fs10) ∧ (∃ mc5 ms6 : Nat, 0 + mc5 ≤ mc ∧ 0 + ms6 ≤ ms ∧ wp_J5_ensureCapacityInternal_d00df G mc5 ms6 (fun M8 =>
  (∃ fs16, M8 p0 = some (kO 0 fs16) ∧ ((0 + mc5) ≤ mc ∧ (0 + ms6) ≤ ms ∧ wp_J5_isLatin1_aae02 G (fun r13 M14 =>
  ((r13 = 0 →
  wp_J5_append_3fe6f_b45 G mc ms post p0 p1 (0 + mc5) (0 + ms6) M14) ∧
  (¬ r13 = 0 →
  ((0 + mc5) ≤ mc ∧ (0 + ms6) ≤ ms ∧ wp_J1_canEncode_fc78d G (fun r37 M38 =>
    ((r37 = 0 →
    wp_J5_append_3fe6f_b45 G mc ms post p0 p1 (0 + mc5) (0 + ms6) M38) ∧
    (¬ r37 = 0 →
    (∃ fs42 v43, M38 p0 = some (kO 0 fs42) ∧ fs42[0]? = some (.ref v43) ∧
      (∃ fs46 v47, M38 p0 = some (kO 0 fs46) ∧ fs46[3]? = some (.int v47) ∧
      (∃ fs50, M38 p0 = some (kO 0 fs50) ∧ 3 < fs50.length ∧ ∀ M51 : k_M, M51 = va_up M38 p0 (some (kO 0 (fs50.set 3 (.int (v47 + (1 : Int32)))))) →
      (∃ n54 f55, M51 v43 = some (kY G n54 f55) ∧ vp_in v47 n54 ∧ ∀ M56 : k_M, M56 = va_up M51 v43 (some (kY G n54 (upd f55 (v47).toNatClampNeg (vp_nar .byte (p1).toInt8.toInt32)))) →
      (0 + mc5) ≤ mc ∧ (0 + ms6) ≤ ms ∧ post (some p0) M56))))))) p1 M14)))) p0 M8))) p0 (v2 + (1 : Int32)) M0)))
theorem in_J5_append_3fe6f_J4 : ∀ w ∈ wsJ40, w ∈ wsJ5_append_3fe6f := by decide +kernel
set_option maxHeartbeats 4000000 in
set_option maxRecDepth 100000 in
theorem c_J5_append_3fe6f (l : Launch) (G : k_G) (mc ms : Nat) (M0 : k_M) (sz : Nat) (post : Option Nat → k_M → Prop) (p0 : Nat) (p1 : Int32) (h : wp_J5_append_3fe6f G mc ms post p0 p1 M0) : Met l yJ5_append_3fe6f wsJ5_append_3fe6f ({ frames := 4, cells := mc, slots := ms, locals := 86 }) (va_Pc [.ref p0, .int p1] (kPre G M0 sz)) (va_Qq post (kB G M0 sz) (kA M0 sz)) mc ms (kA M0 sz) := by
  refine Met.ofW (cc := cJ5_append_3fe6f) (maxL := 2) (ret := (some (.object "java/lang/AbstractStringBuilder"))) (by decide) rfl ?_
  intro p e s m args below meth c s₁ B hml hv
  obtain ⟨rfl, hsz, hR, hE⟩ := hv
  have hx := B.exec
  have hb := B.bytes
  have hr := B.returns
  have hts := atoms_spec (ws := wsJ5_append_3fe6f) B.pre
  have hown : s.vm.findClass RJ5 = some m.cls := findClass_of_methodNamed B.named
  have hlocks := B.notSynchronized
  subst hsz
  have hK := hE.1
  have hA : ∀ q, s.heap.size ≤ q → kA M0 s.heap.size q := kA.new
  have hS : va_S (kA M0 s.heap.size) s.heap s.heap [] := va_S.rf
  have hw1 := hts (.fieldLink RJ5 79 "java/lang/AbstractStringBuilder" "count" "I") (by decide +kernel)
  have hw2 := hts (.fieldLink RJ5 15 "java/lang/AbstractStringBuilder" "value" "[B") (by decide +kernel)
  have b56 : ∀ (x0 : Nat) (x1 : Int32) (kc : Nat) (ks : Nat) (M : k_M) (H : Heap) (locs : List Loc) (ls : Array Slot), wp_J5_append_3fe6f_b56 G mc ms post x0 x1 kc ks M → lv_has ls 2 [(0, .ref x0), (1, .int x1)] → kR G M (kA M0 s.heap.size) H → va_S (kA M0 s.heap.size) s.heap H locs → W p l e (headSpec wsJ5_append_3fe6f ({ frames := 4, cells := mc, slots := ms, locals := 86 })).room s m ([.ref p0, .int p1] : List Value).toArray below meth c H locs kc ks (MQ below (va_Qq post (kB G M0 s.heap.size) (kA M0 s.heap.size)) ([.ref p0, .int p1] : List Value).toArray s mc ms (kA M0 s.heap.size)) (F0 m 56 ls []) := by
    intro x0 x1 kc ks M H locs ls h hl hR hS
    refine lv_aload_n hx hb dJ5_append_3fe6f_56 rfl (lv_at hl 0 rfl) ?_
    obtain ⟨fs25, v26, hm27, hv28, h⟩ := h
    refine k_get (ci := 0) (C := RJ4) (T := TJ4) (N := 4) hx hb hts in_J5_append_3fe6f_J4 hown hK hR hm27 rfl 0 (by decide) hw2 (fun _ h9 => h9) hv28 dJ5_append_3fe6f_57 ?_
    refine lv_aload_n hx hb dJ5_append_3fe6f_60 rfl (lv_at hl 0 rfl) ?_
    refine lv_dup hx hb dJ5_append_3fe6f_61 rfl ?_
    obtain ⟨fs29, v30, hm31, hv32, h⟩ := h
    refine k_get (ci := 0) (C := RJ4) (T := TJ4) (N := 4) hx hb hts in_J5_append_3fe6f_J4 hown hK hR hm31 rfl 3 (by decide) hw1 (fun _ h9 => h9) hv32 dJ5_append_3fe6f_62 ?_
    refine lv_dup_x1 hx hb dJ5_append_3fe6f_65 rfl rfl ?_
    refine lv_iconst (v := (1 : Int32)) hx hb dJ5_append_3fe6f_66 (by decide) ?_
    refine lv_iadd hx hb dJ5_append_3fe6f_67 ?_
    obtain ⟨fs33, hm35, hk36, h⟩ := h
    replace h := h _ rfl
    refine k_put (ci := 0) (v := .int (v30 + (1 : Int32))) (ty := .int) (C := RJ4) (T := TJ4) (N := 4) hx hb hts in_J5_append_3fe6f_J4 tyJ4 tyJ4_ok nmJ4 hown hK hR hS hm35 rfl 3 (by decide) hw1 (fun _ h9 => h9) rfl (by decide +kernel) rfl rfl hk36 dJ5_append_3fe6f_68 (fun H locs hR hS => ?_)
    refine lv_iload_n hx hb dJ5_append_3fe6f_71 rfl (lv_at hl 1 rfl) ?_
    exact h.elim
  have b45 : ∀ (x0 : Nat) (x1 : Int32) (kc : Nat) (ks : Nat) (M : k_M) (H : Heap) (locs : List Loc) (ls : Array Slot), wp_J5_append_3fe6f_b45 G mc ms post x0 x1 kc ks M → lv_has ls 2 [(0, .ref x0), (1, .int x1)] → kR G M (kA M0 s.heap.size) H → va_S (kA M0 s.heap.size) s.heap H locs → W p l e (headSpec wsJ5_append_3fe6f ({ frames := 4, cells := mc, slots := ms, locals := 86 })).room s m ([.ref p0, .int p1] : List Value).toArray below meth c H locs kc ks (MQ below (va_Qq post (kB G M0 s.heap.size) (kA M0 s.heap.size)) ([.ref p0, .int p1] : List Value).toArray s mc ms (kA M0 s.heap.size)) (F0 m 45 ls []) := by
    intro x0 x1 kc ks M H locs ls h hl hR hS
    refine lv_aload_n hx hb dJ5_append_3fe6f_45 rfl (lv_at hl 0 rfl) ?_
    obtain ⟨fs22, hm21, h⟩ := h
    obtain ⟨hc23, hc24, h⟩ := h
    refine k_calli0 (va_runU (As := []) (rest := []) ⟨hx, hb, hml, hown, hts⟩ (c_J5_isLatin1_aae02 l G _ _ _ x0 h) (va_cwU 0 hts gJ5_append_3fe6f_J5_isLatin1_aae02_u83J4 rfl rfl rfl rfl (by decide +kernel) ⟨Nat.le_of_ble_eq_true rfl, Nat.le_of_ble_eq_true rfl⟩) (k_preV (q := (RJ4, TJ4, 4)) hm21 rfl hR hS hA hE) rfl rfl hl.1 rfl (lv_room (Nat.le_of_ble_eq_true rfl)) dJ5_append_3fe6f_46 ⟨hc23, hc24⟩) hR hS hA (fun r19 M20 H locs h hR hS => ?_)
    obtain ⟨ha, hb2⟩ := h
    refine lv_if_eq (tgt := 56) hx hb dJ5_append_3fe6f_49 (by decide) (fun hc => ?_) (fun hc => ?_)
    · replace h := ha hc
      exact b56 _ _ _ _ _ _ _ _ h (lv_sub hl [0, 1] rfl) hR hS
    · replace h := hb2 hc
      refine lv_aload_n hx hb dJ5_append_3fe6f_52 rfl (lv_at hl 0 rfl) ?_
      exact h.elim
  have hl := lv_entry ([.ref p0, .int p1]) (n := 2) (Nat.le_of_ble_eq_true rfl)
  rw [lg_entry_eq]
  generalize (lg_sl ([.ref p0, .int p1]) ++ List.replicate (2 - (lg_sl ([.ref p0, .int p1])).length) Slot.unset).toArray = ls at hl ⊢
  have hl : lv_has ls 2 [(0, .ref p0), (1, .int p1)] := hl
  have hR0 := hR
  refine lv_aload_n hx hb dJ5_append_3fe6f_0 rfl (lv_at hl 0 rfl) ?_
  refine lv_aload_n hx hb dJ5_append_3fe6f_1 rfl (lv_at hl 0 rfl) ?_
  obtain ⟨fs1, v2, hm3, hv4, h⟩ := h
  refine k_get (ci := 0) (C := RJ4) (T := TJ4) (N := 4) hx hb hts in_J5_append_3fe6f_J4 hown hK hR hm3 rfl 3 (by decide) hw1 (fun _ h9 => h9) hv4 dJ5_append_3fe6f_2 ?_
  refine lv_iconst (v := (1 : Int32)) hx hb dJ5_append_3fe6f_5 (by decide) ?_
  refine lv_iadd hx hb dJ5_append_3fe6f_6 ?_
  obtain ⟨fs10, hm9, h⟩ := h
  obtain ⟨mc5, ms6, hc11, hc12, h⟩ := h
  refine k_callv (va_runU (As := [.int (v2 + (1 : Int32))]) (rest := []) ⟨hx, hb, hml, hown, hts⟩ (c_J5_ensureCapacityInternal_d00df l G mc5 ms6 _ _ _ p0 (v2 + (1 : Int32)) h) (va_cwU 1 hts gJ5_append_3fe6f_J5_ensureCapacityInternal_d00df_u100J4 rfl rfl rfl rfl (by decide +kernel) ⟨Nat.le_of_ble_eq_true rfl, Nat.le_of_ble_eq_true rfl⟩) (k_preV (q := (RJ4, TJ4, 4)) hm9 rfl hR hS hA hE) rfl rfl hl.1 rfl (lv_room (Nat.le_of_ble_eq_true rfl)) dJ5_append_3fe6f_7 ⟨hc11, hc12⟩) hR hS hA (fun M8 H locs h hR hS => ?_)
  refine lv_aload_n hx hb dJ5_append_3fe6f_10 rfl (lv_at hl 0 rfl) ?_
  obtain ⟨fs16, hm15, h⟩ := h
  obtain ⟨hc17, hc18, h⟩ := h
  refine k_calli0 (va_runU (As := []) (rest := []) ⟨hx, hb, hml, hown, hts⟩ (c_J5_isLatin1_aae02 l G _ _ _ p0 h) (va_cwU 0 hts gJ5_append_3fe6f_J5_isLatin1_aae02_u83J4 rfl rfl rfl rfl (by decide +kernel) ⟨Nat.le_of_ble_eq_true rfl, Nat.le_of_ble_eq_true rfl⟩) (k_preV (q := (RJ4, TJ4, 4)) hm15 rfl hR hS hA hE) rfl rfl hl.1 rfl (lv_room (Nat.le_of_ble_eq_true rfl)) dJ5_append_3fe6f_11 ⟨hc17, hc18⟩) hR hS hA (fun r13 M14 H locs h hR hS => ?_)
  obtain ⟨ha, hb2⟩ := h
  refine lv_if_eq (tgt := 45) hx hb dJ5_append_3fe6f_14 (by decide) (fun hc => ?_) (fun hc => ?_)
  · replace h := ha hc
    exact b45 _ _ _ _ _ _ _ _ h (lv_sub hl [0, 1] rfl) hR hS
  · replace h := hb2 hc
    refine lv_iload_n hx hb dJ5_append_3fe6f_17 rfl (lv_at hl 1 rfl) ?_
    obtain ⟨hc40, hc41, h⟩ := h
    refine k_calli0 (va_runS (As := [.int p1]) (rest := []) ⟨hx, hb, hml, hown, hts⟩ (c_J1_canEncode_fc78d l G _ _ _ p1 h) (va_cwS 1 hts gJ5_append_3fe6f_J1_canEncode_fc78d rfl rfl rfl (by decide +kernel) ⟨Nat.le_of_ble_eq_true rfl, Nat.le_of_ble_eq_true rfl⟩) (k_preS hR hS hA hE) rfl rfl hl.1 rfl (lv_room (Nat.le_of_ble_eq_true rfl)) dJ5_append_3fe6f_18 ⟨hc40, hc41⟩) hR hS hA (fun r37 M38 H locs h hR hS => ?_)
    obtain ⟨ha, hb2⟩ := h
    refine lv_if_eq (tgt := 45) hx hb dJ5_append_3fe6f_21 (by decide) (fun hc => ?_) (fun hc => ?_)
    · replace h := ha hc
      exact b45 _ _ _ _ _ _ _ _ h (lv_sub hl [0, 1] rfl) hR hS
    · replace h := hb2 hc
      refine lv_aload_n hx hb dJ5_append_3fe6f_24 rfl (lv_at hl 0 rfl) ?_
      obtain ⟨fs42, v43, hm44, hv45, h⟩ := h
      refine k_get (ci := 0) (C := RJ4) (T := TJ4) (N := 4) hx hb hts in_J5_append_3fe6f_J4 hown hK hR hm44 rfl 0 (by decide) hw2 (fun _ h9 => h9) hv45 dJ5_append_3fe6f_25 ?_
      refine lv_aload_n hx hb dJ5_append_3fe6f_28 rfl (lv_at hl 0 rfl) ?_
      refine lv_dup hx hb dJ5_append_3fe6f_29 rfl ?_
      obtain ⟨fs46, v47, hm48, hv49, h⟩ := h
      refine k_get (ci := 0) (C := RJ4) (T := TJ4) (N := 4) hx hb hts in_J5_append_3fe6f_J4 hown hK hR hm48 rfl 3 (by decide) hw1 (fun _ h9 => h9) hv49 dJ5_append_3fe6f_30 ?_
      refine lv_dup_x1 hx hb dJ5_append_3fe6f_33 rfl rfl ?_
      refine lv_iconst (v := (1 : Int32)) hx hb dJ5_append_3fe6f_34 (by decide) ?_
      refine lv_iadd hx hb dJ5_append_3fe6f_35 ?_
      obtain ⟨fs50, hm52, hk53, h⟩ := h
      replace h := h _ rfl
      refine k_put (ci := 0) (v := .int (v47 + (1 : Int32))) (ty := .int) (C := RJ4) (T := TJ4) (N := 4) hx hb hts in_J5_append_3fe6f_J4 tyJ4 tyJ4_ok nmJ4 hown hK hR hS hm52 rfl 3 (by decide) hw1 (fun _ h9 => h9) rfl (by decide +kernel) rfl rfl hk53 dJ5_append_3fe6f_36 (fun H locs hR hS => ?_)
      refine lv_iload_n hx hb dJ5_append_3fe6f_39 rfl (lv_at hl 1 rfl) ?_
      refine lv_i2b hx hb dJ5_append_3fe6f_40 rfl ?_
      obtain ⟨n54, f55, hm57, hv58, h⟩ := h
      replace h := h _ rfl
      refine k_bast hx hb hK hR hS hm57 hv58 dJ5_append_3fe6f_41 (fun H locs hR hS => ?_)
      refine lv_goto (tgt := 75) hx hb dJ5_append_3fe6f_42 (by decide) ?_
      refine lv_aload_n hx hb dJ5_append_3fe6f_75 rfl (lv_at hl 0 rfl) ?_
      obtain ⟨hwc, hws, h⟩ := h
      refine W.widen (k := mc) (n := ms) hwc hws ?_
      exact k_retq hx hb hr (by first | exact Or.inl ⟨_, rfl⟩ | exact Or.inr ⟨_, rfl⟩) hlocks hR hS h dJ5_append_3fe6f_76

def wp_J4_append_cf468 (G : k_G) (mc ms : Nat) (post : Option Nat → k_M → Prop) (p0 : Nat) (p1 : Int32) (M0 : k_M) : Prop :=
  (∃ fs6, M0 p0 = some (kO 0 fs6) ∧ (∃ mc1 ms2 : Nat, 0 + mc1 ≤ mc ∧ 0 + ms2 ≤ ms ∧ wp_J5_append_3fe6f G mc1 ms2 (fun r3 M4 => ∃ v9, r3 = some v9 ∧
  (0 + mc1) ≤ mc ∧ (0 + ms2) ≤ ms ∧ post (some p0) M4) p0 p1 M0))
set_option maxHeartbeats 4000000 in
set_option maxRecDepth 100000 in
theorem c_J4_append_cf468 (l : Launch) (G : k_G) (mc ms : Nat) (M0 : k_M) (sz : Nat) (post : Option Nat → k_M → Prop) (p0 : Nat) (p1 : Int32) (h : wp_J4_append_cf468 G mc ms post p0 p1 M0) : Met l yJ4_append_cf468 wsJ4_append_cf468 ({ frames := 5, cells := mc, slots := ms, locals := 107 }) (va_Pc [.ref p0, .int p1] (kPre G M0 sz)) (va_Qq post (kB G M0 sz) (kA M0 sz)) mc ms (kA M0 sz) := by
  refine Met.ofW (cc := cJ4_append_cf468) (maxL := 2) (ret := (some (.object "java/lang/StringBuilder"))) (by decide) rfl ?_
  intro p e s m args below meth c s₁ B hml hv
  obtain ⟨rfl, hsz, hR, hE⟩ := hv
  have hx := B.exec
  have hb := B.bytes
  have hr := B.returns
  have hts := atoms_spec (ws := wsJ4_append_cf468) B.pre
  have hown : s.vm.findClass RJ4 = some m.cls := findClass_of_methodNamed B.named
  have hlocks := B.notSynchronized
  subst hsz
  have hK := hE.1
  have hA : ∀ q, s.heap.size ≤ q → kA M0 s.heap.size q := kA.new
  have hS : va_S (kA M0 s.heap.size) s.heap s.heap [] := va_S.rf
  have hl := lv_entry ([.ref p0, .int p1]) (n := 2) (Nat.le_of_ble_eq_true rfl)
  rw [lg_entry_eq]
  generalize (lg_sl ([.ref p0, .int p1]) ++ List.replicate (2 - (lg_sl ([.ref p0, .int p1])).length) Slot.unset).toArray = ls at hl ⊢
  have hl : lv_has ls 2 [(0, .ref p0), (1, .int p1)] := hl
  have hR0 := hR
  refine lv_aload_n hx hb dJ4_append_cf468_0 rfl (lv_at hl 0 rfl) ?_
  refine lv_iload_n hx hb dJ4_append_cf468_1 rfl (lv_at hl 1 rfl) ?_
  obtain ⟨fs6, hm5, h⟩ := h
  obtain ⟨mc1, ms2, hc7, hc8, h⟩ := h
  refine k_callq (va_runSU (As := [.int p1]) (rest := []) (hK.1 0 (RJ4, TJ4, 4) rfl).2 ⟨hx, hb, hml, hown, hts⟩ (c_J5_append_3fe6f l G mc1 ms2 _ _ _ p0 p1 h) (va_cwSU 1 hts gJ4_append_cf468_J5_append_3fe6f_s50 rfl rfl rfl (by decide +kernel) ⟨Nat.le_of_ble_eq_true rfl, Nat.le_of_ble_eq_true rfl⟩) (k_preV (q := (RJ4, TJ4, 4)) hm5 rfl hR hS hA hE) rfl rfl hl.1 rfl (lv_room (Nat.le_of_ble_eq_true rfl)) dJ4_append_cf468_2 ⟨hc7, hc8⟩) hR hS hA (fun r3 M4 H locs h hR hS => ?_)
  obtain ⟨v9, rfl, h⟩ := h
  refine lv_pop hx hb dJ4_append_cf468_5 rfl ?_
  refine lv_aload_n hx hb dJ4_append_cf468_6 rfl (lv_at hl 0 rfl) ?_
  obtain ⟨hwc, hws, h⟩ := h
  refine W.widen (k := mc) (n := ms) hwc hws ?_
  exact k_retq hx hb hr (by first | exact Or.inl ⟨_, rfl⟩ | exact Or.inr ⟨_, rfl⟩) hlocks hR hS h dJ4_append_cf468_7

def wp_J6_stringSize_0f7a4_L16 (G : k_G) (post : Int32 → k_M → Prop) : Nat → Int32 → Int32 → Int32 → Int32 → k_M → Prop
  | 0 => fun _ _ _ _ _ => False
  | n + 1 => fun x0 x1 x2 x3 M =>
  (((10 : Int32) ≤ x3 →
      post ((10 : Int32) + x1) M) ∧
      (¬ (10 : Int32) ≤ x3 →
      ((x0 ≤ x2 →
        (wp_J6_stringSize_0f7a4_L16 G post n) x0 x1 ((10 : Int32) * x2) (x3 + (1 : Int32)) M) ∧
        (¬ x0 ≤ x2 →
        post (x3 + x1) M))))
def wp_J6_stringSize_0f7a4 (G : k_G) (post : Int32 → k_M → Prop) (p0 : Int32) (M0 : k_M) : Prop :=
  ((p0 < 0 →
  ∃ k1, wp_J6_stringSize_0f7a4_L16 G post k1 p0 (1 : Int32) (-10 : Int32) (1 : Int32) M0) ∧
  (¬ p0 < 0 →
  ∃ k2, wp_J6_stringSize_0f7a4_L16 G post k2 (-p0) (0 : Int32) (-10 : Int32) (1 : Int32) M0))
set_option maxHeartbeats 4000000 in
set_option maxRecDepth 100000 in
theorem c_J6_stringSize_0f7a4 (l : Launch) (G : k_G) (M0 : k_M) (sz : Nat) (post : Int32 → k_M → Prop) (p0 : Int32) (h : wp_J6_stringSize_0f7a4 G post p0 M0) : Met l yJ6_stringSize_0f7a4 wsJ6_stringSize_0f7a4 ({ frames := 0, cells := 0, slots := 0, locals := 0 }) (va_Pc [.int p0] (kPre G M0 sz)) (va_Qi post (kB G M0 sz) (kA M0 sz)) 0 0 (kA M0 sz) := by
  refine Met.ofW (cc := cJ6_stringSize_0f7a4) (maxL := 4) (ret := (some .int)) (by decide) rfl ?_
  intro p e s m args below meth c s₁ B hml hv
  obtain ⟨rfl, hsz, hR, hE⟩ := hv
  have hx := B.exec
  have hb := B.bytes
  have hr := B.returns
  have hts := atoms_spec (ws := wsJ6_stringSize_0f7a4) B.pre
  have hown : s.vm.findClass RJ6 = some m.cls := findClass_of_methodNamed B.named
  have hlocks := B.notSynchronized
  subst hsz
  have hK := hE.1
  have hA : ∀ q, s.heap.size ≤ q → kA M0 s.heap.size q := kA.new
  have hS : va_S (kA M0 s.heap.size) s.heap s.heap [] := va_S.rf
  have L16 : ∀ (n : Nat), ∀ (x0 : Int32) (x1 : Int32) (x2 : Int32) (x3 : Int32) (M : k_M) (H : Heap) (locs : List Loc) (ls : Array Slot), wp_J6_stringSize_0f7a4_L16 G post n x0 x1 x2 x3 M → lv_has ls 4 [(0, .int x0), (1, .int x1), (2, .int x2), (3, .int x3)] → kR G M (kA M0 s.heap.size) H → va_S (kA M0 s.heap.size) s.heap H locs → W p l e (headSpec wsJ6_stringSize_0f7a4 ({ frames := 0, cells := 0, slots := 0, locals := 0 })).room s m ([.int p0] : List Value).toArray below meth c H locs 0 0 (MQ below (va_Qi post (kB G M0 s.heap.size) (kA M0 s.heap.size)) ([.int p0] : List Value).toArray s 0 0 (kA M0 s.heap.size)) (F0 m 16 ls []) := by
    intro n
    induction n with
    | zero =>
      intro  x0 x1 x2 x3 M H locs ls h
      exact False.elim h
    | succ n ih =>
      intro  x0 x1 x2 x3 M H locs ls h hl hR hS
      refine lv_iload_n hx hb dJ6_stringSize_0f7a4_16 rfl (lv_at hl 3 rfl) ?_
      refine lv_bipush (v := (10 : Int32)) hx hb dJ6_stringSize_0f7a4_17 (by decide) ?_
      obtain ⟨ha, hb2⟩ := h
      refine lv_icmp_ge (tgt := 42) hx hb dJ6_stringSize_0f7a4_19 (by decide) (fun hc => ?_) (fun hc => ?_)
      · replace h := ha hc
        refine lv_bipush (v := (10 : Int32)) hx hb dJ6_stringSize_0f7a4_42 (by decide) ?_
        refine lv_iload_n hx hb dJ6_stringSize_0f7a4_44 rfl (lv_at hl 1 rfl) ?_
        refine lv_iadd hx hb dJ6_stringSize_0f7a4_45 ?_
        exact k_reti hx hb hr hlocks rfl hR hS h dJ6_stringSize_0f7a4_46
      · replace h := hb2 hc
        refine lv_iload_n hx hb dJ6_stringSize_0f7a4_22 rfl (lv_at hl 0 rfl) ?_
        refine lv_iload_n hx hb dJ6_stringSize_0f7a4_23 rfl (lv_at hl 2 rfl) ?_
        obtain ⟨ha, hb2⟩ := h
        refine lv_icmp_le (tgt := 31) hx hb dJ6_stringSize_0f7a4_24 (by decide) (fun hc => ?_) (fun hc => ?_)
        · replace h := ha hc
          refine lv_bipush (v := (10 : Int32)) hx hb dJ6_stringSize_0f7a4_31 (by decide) ?_
          refine lv_iload_n hx hb dJ6_stringSize_0f7a4_33 rfl (lv_at hl 2 rfl) ?_
          refine lv_imul hx hb dJ6_stringSize_0f7a4_34 ?_
          refine lv_istore_n (lv' := [(2, .int ((10 : Int32) * x2)), (0, .int x0), (1, .int x1), (3, .int x3)]) hx hb dJ6_stringSize_0f7a4_35 rfl hl (by decide) rfl (fun ls hl => ?_)
          refine lv_iinc (v := (x3 + (1 : Int32))) (lv' := [(3, .int (x3 + (1 : Int32))), (2, .int ((10 : Int32) * x2)), (0, .int x0), (1, .int x1)]) hx hb dJ6_stringSize_0f7a4_36 hl (k := 3) rfl rfl (by decide) rfl (fun ls hl => ?_)
          refine lv_goto (tgt := 16) hx hb dJ6_stringSize_0f7a4_39 (by decide) ?_
          exact ih _ _ _ _ _ _ _ _ h (lv_sub hl [2, 3, 1, 0] rfl) hR hS
        · replace h := hb2 hc
          refine lv_iload_n hx hb dJ6_stringSize_0f7a4_27 rfl (lv_at hl 3 rfl) ?_
          refine lv_iload_n hx hb dJ6_stringSize_0f7a4_28 rfl (lv_at hl 1 rfl) ?_
          refine lv_iadd hx hb dJ6_stringSize_0f7a4_29 ?_
          exact k_reti hx hb hr hlocks rfl hR hS h dJ6_stringSize_0f7a4_30
  have hl := lv_entry ([.int p0]) (n := 4) (Nat.le_of_ble_eq_true rfl)
  rw [lg_entry_eq]
  generalize (lg_sl ([.int p0]) ++ List.replicate (4 - (lg_sl ([.int p0])).length) Slot.unset).toArray = ls at hl ⊢
  have hl : lv_has ls 4 [(0, .int p0)] := hl
  have hR0 := hR
  refine lv_iconst (v := (1 : Int32)) hx hb dJ6_stringSize_0f7a4_0 (by decide) ?_
  refine lv_istore_n (lv' := [(1, .int (1 : Int32)), (0, .int p0)]) hx hb dJ6_stringSize_0f7a4_1 rfl hl (by decide) rfl (fun ls hl => ?_)
  refine lv_iload_n hx hb dJ6_stringSize_0f7a4_2 rfl (lv_at hl 1 rfl) ?_
  obtain ⟨ha, hb2⟩ := h
  refine lv_if_lt (tgt := 11) hx hb dJ6_stringSize_0f7a4_3 (by decide) (fun hc => ?_) (fun hc => ?_)
  · replace h := ha hc
    refine lv_bipush (v := (-10 : Int32)) hx hb dJ6_stringSize_0f7a4_11 (by decide) ?_
    refine lv_istore_n (lv' := [(2, .int (-10 : Int32)), (1, .int (1 : Int32)), (0, .int p0)]) hx hb dJ6_stringSize_0f7a4_13 rfl hl (by decide) rfl (fun ls hl => ?_)
    refine lv_iconst (v := (1 : Int32)) hx hb dJ6_stringSize_0f7a4_14 (by decide) ?_
    refine lv_istore_n (lv' := [(3, .int (1 : Int32)), (2, .int (-10 : Int32)), (1, .int (1 : Int32)), (0, .int p0)]) hx hb dJ6_stringSize_0f7a4_15 rfl hl (by decide) rfl (fun ls hl => ?_)
    obtain ⟨k1, h⟩ := h
    exact L16 k1 _ _ _ _ _ _ _ _ h (lv_sub hl [3, 2, 1, 0] rfl) hR hS
  · replace h := hb2 hc
    refine lv_iconst (v := (0 : Int32)) hx hb dJ6_stringSize_0f7a4_6 (by decide) ?_
    refine lv_istore_n (lv' := [(1, .int (0 : Int32)), (0, .int p0)]) hx hb dJ6_stringSize_0f7a4_7 rfl hl (by decide) rfl (fun ls hl => ?_)
    refine lv_iload_n hx hb dJ6_stringSize_0f7a4_8 rfl (lv_at hl 1 rfl) ?_
    refine lv_ineg hx hb dJ6_stringSize_0f7a4_9 ?_
    refine lv_istore_n (lv' := [(0, .int (-p0)), (1, .int (0 : Int32))]) hx hb dJ6_stringSize_0f7a4_10 rfl hl (by decide) rfl (fun ls hl => ?_)
    refine lv_bipush (v := (-10 : Int32)) hx hb dJ6_stringSize_0f7a4_11 (by decide) ?_
    refine lv_istore_n (lv' := [(2, .int (-10 : Int32)), (0, .int (-p0)), (1, .int (0 : Int32))]) hx hb dJ6_stringSize_0f7a4_13 rfl hl (by decide) rfl (fun ls hl => ?_)
    refine lv_iconst (v := (1 : Int32)) hx hb dJ6_stringSize_0f7a4_14 (by decide) ?_
    refine lv_istore_n (lv' := [(3, .int (1 : Int32)), (2, .int (-10 : Int32)), (0, .int (-p0)), (1, .int (0 : Int32))]) hx hb dJ6_stringSize_0f7a4_15 rfl hl (by decide) rfl (fun ls hl => ?_)
    obtain ⟨k2, h⟩ := h
    exact L16 k2 _ _ _ _ _ _ _ _ h (lv_sub hl [2, 3, 1, 0] rfl) hR hS

def wp_J6_getChars_ba4f3_b104 (G : k_G) (post : Int32 → k_M → Prop) (x2 : Nat) (x5 : Int32) (x6 : Int32) (M : k_M) : Prop :=
  ((x6 = 0 →
    post x5 M) ∧
    (¬ x6 = 0 →
    (∃ n11 f12, M x2 = some (kY G n11 f12) ∧ vp_in (x5 + (-1 : Int32)) n11 ∧ ∀ M13 : k_M, M13 = va_up M x2 (some (kY G n11 (upd f12 ((x5 + (-1 : Int32))).toNatClampNeg (vp_nar .byte (45 : Int32))))) →
      post (x5 + (-1 : Int32)) M13)))
def wp_J6_getChars_ba4f3_L22 (G : k_G) (post : Int32 → k_M → Prop) : Nat → Int32 → Nat → Int32 → Int32 → k_M → Prop
  | 0 => fun _ _ _ _ _ => False
  | n + 1 => fun x0 x2 x5 x6 M =>
  (((-100 : Int32) < x0 →
      (vp_in (-x0) 100 ∧
        (∃ n6 f7, M x2 = some (kY G n6 f7) ∧ vp_in (x5 + (-1 : Int32)) n6 ∧ ∀ M8 : k_M, M8 = va_up M x2 (some (kY G n6 (upd f7 ((x5 + (-1 : Int32))).toNatClampNeg (vp_nar .byte (nI (48 + ((-x0)).toNatClampNeg % 10)))))) →
        (((-9 : Int32) ≤ x0 →
        wp_J6_getChars_ba4f3_b104 G post x2 (x5 + (-1 : Int32)) x6 M8) ∧
        (¬ (-9 : Int32) ≤ x0 →
        (vp_in (-x0) 100 ∧
          (∃ n20 f21, M8 x2 = some (kY G n20 f21) ∧ vp_in ((x5 + (-1 : Int32)) + (-1 : Int32)) n20 ∧ ∀ M22 : k_M, M22 = va_up M8 x2 (some (kY G n20 (upd f21 (((x5 + (-1 : Int32)) + (-1 : Int32))).toNatClampNeg (vp_nar .byte (nI (48 + ((-x0)).toNatClampNeg / 10)))))) →
          wp_J6_getChars_ba4f3_b104 G post x2 ((x5 + (-1 : Int32)) + (-1 : Int32)) x6 M22))))))) ∧
      (¬ (-100 : Int32) < x0 →
      (∀ y25 : Int32, y25 = (((x0 / (100 : Int32)) * (100 : Int32)) - x0) →
        (vp_in y25 100 ∧
        (∃ n30 f31, M x2 = some (kY G n30 f31) ∧ vp_in (x5 + (-1 : Int32)) n30 ∧ ∀ M32 : k_M, M32 = va_up M x2 (some (kY G n30 (upd f31 ((x5 + (-1 : Int32))).toNatClampNeg (vp_nar .byte (nI (48 + (y25).toNatClampNeg % 10)))))) →
        (vp_in y25 100 ∧
        (∃ n39 f40, M32 x2 = some (kY G n39 f40) ∧ vp_in ((x5 + (-1 : Int32)) + (-1 : Int32)) n39 ∧ ∀ M41 : k_M, M41 = va_up M32 x2 (some (kY G n39 (upd f40 (((x5 + (-1 : Int32)) + (-1 : Int32))).toNatClampNeg (vp_nar .byte (nI (48 + (y25).toNatClampNeg / 10)))))) →
        (wp_J6_getChars_ba4f3_L22 G post n) (x0 / (100 : Int32)) x2 ((x5 + (-1 : Int32)) + (-1 : Int32)) x6 M41)))))))
def wp_J6_getChars_ba4f3_b12 (G : k_G) (post : Int32 → k_M → Prop) (x0 : Int32) (x2 : Nat) (x5 : Int32) (s0 : Int32) (M : k_M) : Prop :=
  ((¬ s0 = 0 →
    ∃ k1, wp_J6_getChars_ba4f3_L22 G post k1 x0 x2 x5 s0 M) ∧
    (s0 = 0 →
    ∃ k44, wp_J6_getChars_ba4f3_L22 G post k44 (-x0) x2 x5 s0 M))
def wp_J6_getChars_ba4f3 (G : k_G) (post : Int32 → k_M → Prop) (p0 : Int32) (p1 : Int32) (p2 : Nat) (M0 : k_M) : Prop :=
  ((0 ≤ p0 →
  wp_J6_getChars_ba4f3_b12 G post p0 p2 p1 (0 : Int32) M0) ∧
  (¬ 0 ≤ p0 →
  wp_J6_getChars_ba4f3_b12 G post p0 p2 p1 (1 : Int32) M0))
set_option maxHeartbeats 4000000 in
set_option maxRecDepth 100000 in
theorem c_J6_getChars_ba4f3 (l : Launch) (G : k_G) (M0 : k_M) (sz : Nat) (post : Int32 → k_M → Prop) (p0 : Int32) (p1 : Int32) (p2 : Nat) (h : wp_J6_getChars_ba4f3 G post p0 p1 p2 M0) : Met l yJ6_getChars_ba4f3 wsJ6_getChars_ba4f3 ({ frames := 0, cells := 0, slots := 0, locals := 0 }) (va_Pc [.int p0, .int p1, .ref p2] (kPre G M0 sz)) (va_Qi post (kB G M0 sz) (kA M0 sz)) 0 0 (kA M0 sz) := by
  refine Met.ofW (cc := cJ6_getChars_ba4f3) (maxL := 7) (ret := (some .int)) (by decide) rfl ?_
  intro p e s m args below meth c s₁ B hml hv
  obtain ⟨rfl, hsz, hR, hE⟩ := hv
  have hx := B.exec
  have hb := B.bytes
  have hr := B.returns
  have hts := atoms_spec (ws := wsJ6_getChars_ba4f3) B.pre
  have hown : s.vm.findClass RJ6 = some m.cls := findClass_of_methodNamed B.named
  have hlocks := B.notSynchronized
  subst hsz
  have hK := hE.1
  have hA : ∀ q, s.heap.size ≤ q → kA M0 s.heap.size q := kA.new
  have hS : va_S (kA M0 s.heap.size) s.heap s.heap [] := va_S.rf
  have hw1 := hts (.fieldLink RJ6 83 "java/lang/Integer" "DigitOnes" "[B") (by decide +kernel)
  have hw2 := hts (.fieldLink RJ6 87 "java/lang/Integer" "DigitTens" "[B") (by decide +kernel)
  have b104 : ∀ (x2 : Nat) (x5 : Int32) (x6 : Int32) (M : k_M) (H : Heap) (locs : List Loc) (ls : Array Slot), wp_J6_getChars_ba4f3_b104 G post x2 x5 x6 M → lv_has ls 7 [(2, .ref x2), (5, .int x5), (6, .int x6)] → kR G M (kA M0 s.heap.size) H → va_S (kA M0 s.heap.size) s.heap H locs → W p l e (headSpec wsJ6_getChars_ba4f3 ({ frames := 0, cells := 0, slots := 0, locals := 0 })).room s m ([.int p0, .int p1, .ref p2] : List Value).toArray below meth c H locs 0 0 (MQ below (va_Qi post (kB G M0 s.heap.size) (kA M0 s.heap.size)) ([.int p0, .int p1, .ref p2] : List Value).toArray s 0 0 (kA M0 s.heap.size)) (F0 m 104 ls []) := by
    intro x2 x5 x6 M H locs ls h hl hR hS
    refine lv_iload hx hb dJ6_getChars_ba4f3_104 (lv_at hl 2 rfl) ?_
    obtain ⟨ha, hb2⟩ := h
    refine lv_if_eq (tgt := 118) hx hb dJ6_getChars_ba4f3_106 (by decide) (fun hc => ?_) (fun hc => ?_)
    · replace h := ha hc
      refine lv_iload hx hb dJ6_getChars_ba4f3_118 (lv_at hl 1 rfl) ?_
      exact k_reti hx hb hr hlocks rfl hR hS h dJ6_getChars_ba4f3_120
    · replace h := hb2 hc
      refine lv_aload_n hx hb dJ6_getChars_ba4f3_109 rfl (lv_at hl 0 rfl) ?_
      refine lv_iinc (v := (x5 + (-1 : Int32))) (lv' := [(5, .int (x5 + (-1 : Int32))), (2, .ref x2), (6, .int x6)]) hx hb dJ6_getChars_ba4f3_110 hl (k := 1) rfl rfl (by decide) rfl (fun ls hl => ?_)
      refine lv_iload hx hb dJ6_getChars_ba4f3_113 (lv_at hl 0 rfl) ?_
      refine lv_bipush (v := (45 : Int32)) hx hb dJ6_getChars_ba4f3_115 (by decide) ?_
      obtain ⟨n11, f12, hm14, hv15, h⟩ := h
      replace h := h _ rfl
      refine k_bast hx hb hK hR hS hm14 hv15 dJ6_getChars_ba4f3_117 (fun H locs hR hS => ?_)
      refine lv_iload hx hb dJ6_getChars_ba4f3_118 (lv_at hl 0 rfl) ?_
      exact k_reti hx hb hr hlocks rfl hR hS h dJ6_getChars_ba4f3_120
  have L22 : ∀ (n : Nat), ∀ (x0 : Int32) (x2 : Nat) (x5 : Int32) (x6 : Int32) (M : k_M) (H : Heap) (locs : List Loc) (ls : Array Slot), wp_J6_getChars_ba4f3_L22 G post n x0 x2 x5 x6 M → lv_has ls 7 [(0, .int x0), (2, .ref x2), (5, .int x5), (6, .int x6)] → kR G M (kA M0 s.heap.size) H → va_S (kA M0 s.heap.size) s.heap H locs → W p l e (headSpec wsJ6_getChars_ba4f3 ({ frames := 0, cells := 0, slots := 0, locals := 0 })).room s m ([.int p0, .int p1, .ref p2] : List Value).toArray below meth c H locs 0 0 (MQ below (va_Qi post (kB G M0 s.heap.size) (kA M0 s.heap.size)) ([.int p0, .int p1, .ref p2] : List Value).toArray s 0 0 (kA M0 s.heap.size)) (F0 m 22 ls []) := by
    intro n
    induction n with
    | zero =>
      intro  x0 x2 x5 x6 M H locs ls h
      exact False.elim h
    | succ n ih =>
      intro  x0 x2 x5 x6 M H locs ls h hl hR hS
      refine lv_iload_n hx hb dJ6_getChars_ba4f3_22 rfl (lv_at hl 0 rfl) ?_
      refine lv_bipush (v := (-100 : Int32)) hx hb dJ6_getChars_ba4f3_23 (by decide) ?_
      obtain ⟨ha, hb2⟩ := h
      refine lv_icmp_gt (tgt := 72) hx hb dJ6_getChars_ba4f3_25 (by decide) (fun hc => ?_) (fun hc => ?_)
      · replace h := ha hc
        refine lv_aload_n hx hb dJ6_getChars_ba4f3_72 rfl (lv_at hl 1 rfl) ?_
        refine lv_iinc (v := (x5 + (-1 : Int32))) (lv' := [(5, .int (x5 + (-1 : Int32))), (0, .int x0), (2, .ref x2), (6, .int x6)]) hx hb dJ6_getChars_ba4f3_73 hl (k := 2) rfl rfl (by decide) rfl (fun ls hl => ?_)
        refine lv_iload hx hb dJ6_getChars_ba4f3_76 (lv_at hl 0 rfl) ?_
        obtain ⟨t2, hz3, ht4⟩ := hE.2.1.2.2.1
        refine va_gets (v := .ref t2) hx hb hz3 hS hown hw1 (fun _ h9 => h9) dJ6_getChars_ba4f3_78 ?_
        refine lv_iload_n hx hb dJ6_getChars_ba4f3_81 rfl (lv_at hl 1 rfl) ?_
        refine lv_ineg hx hb dJ6_getChars_ba4f3_82 ?_
        obtain ⟨hv5, h⟩ := h
        refine va_tb (v := .int (nI (48 + ((-x0)).toNatClampNeg % 10))) hx hb ht4 hS hv5 rfl dJ6_getChars_ba4f3_83 ?_
        obtain ⟨n6, f7, hm9, hv10, h⟩ := h
        replace h := h _ rfl
        refine k_bast hx hb hK hR hS hm9 hv10 dJ6_getChars_ba4f3_84 (fun H locs hR hS => ?_)
        refine lv_iload_n hx hb dJ6_getChars_ba4f3_85 rfl (lv_at hl 1 rfl) ?_
        refine lv_bipush (v := (-9 : Int32)) hx hb dJ6_getChars_ba4f3_86 (by decide) ?_
        obtain ⟨ha, hb2⟩ := h
        refine lv_icmp_ge (tgt := 104) hx hb dJ6_getChars_ba4f3_88 (by decide) (fun hc => ?_) (fun hc => ?_)
        · replace h := ha hc
          exact b104 _ _ _ _ _ _ _ h (lv_sub hl [2, 0, 3] rfl) hR hS
        · replace h := hb2 hc
          refine lv_aload_n hx hb dJ6_getChars_ba4f3_91 rfl (lv_at hl 2 rfl) ?_
          refine lv_iinc (v := ((x5 + (-1 : Int32)) + (-1 : Int32))) (lv' := [(5, .int ((x5 + (-1 : Int32)) + (-1 : Int32))), (0, .int x0), (2, .ref x2), (6, .int x6)]) hx hb dJ6_getChars_ba4f3_92 hl (k := 0) rfl rfl (by decide) rfl (fun ls hl => ?_)
          refine lv_iload hx hb dJ6_getChars_ba4f3_95 (lv_at hl 0 rfl) ?_
          obtain ⟨t16, hz17, ht18⟩ := hE.2.1.2.1
          refine va_gets (v := .ref t16) hx hb hz17 hS hown hw2 (fun _ h9 => h9) dJ6_getChars_ba4f3_97 ?_
          refine lv_iload_n hx hb dJ6_getChars_ba4f3_100 rfl (lv_at hl 1 rfl) ?_
          refine lv_ineg hx hb dJ6_getChars_ba4f3_101 ?_
          obtain ⟨hv19, h⟩ := h
          refine va_tb (v := .int (nI (48 + ((-x0)).toNatClampNeg / 10))) hx hb ht18 hS hv19 rfl dJ6_getChars_ba4f3_102 ?_
          obtain ⟨n20, f21, hm23, hv24, h⟩ := h
          replace h := h _ rfl
          refine k_bast hx hb hK hR hS hm23 hv24 dJ6_getChars_ba4f3_103 (fun H locs hR hS => ?_)
          exact b104 _ _ _ _ _ _ _ h (lv_sub hl [2, 0, 3] rfl) hR hS
      · replace h := hb2 hc
        refine lv_iload_n hx hb dJ6_getChars_ba4f3_28 rfl (lv_at hl 0 rfl) ?_
        refine lv_bipush (v := (100 : Int32)) hx hb dJ6_getChars_ba4f3_29 (by decide) ?_
        refine lv_idiv hx hb dJ6_getChars_ba4f3_31 (by decide) ?_
        refine lv_istore_n (lv' := [(3, .int (x0 / (100 : Int32))), (0, .int x0), (2, .ref x2), (5, .int x5), (6, .int x6)]) hx hb dJ6_getChars_ba4f3_32 rfl hl (by decide) rfl (fun ls hl => ?_)
        refine lv_iload_n hx hb dJ6_getChars_ba4f3_33 rfl (lv_at hl 0 rfl) ?_
        refine lv_bipush (v := (100 : Int32)) hx hb dJ6_getChars_ba4f3_34 (by decide) ?_
        refine lv_imul hx hb dJ6_getChars_ba4f3_36 ?_
        refine lv_iload_n hx hb dJ6_getChars_ba4f3_37 rfl (lv_at hl 1 rfl) ?_
        refine lv_isub hx hb dJ6_getChars_ba4f3_38 ?_
        refine lv_topi (fun y25 ey25 => ?_)
        replace h := h y25 ey25
        refine lv_istore (lv' := [(4, .int y25), (3, .int (x0 / (100 : Int32))), (0, .int x0), (2, .ref x2), (5, .int x5), (6, .int x6)]) hx hb dJ6_getChars_ba4f3_39 hl (by decide) rfl (fun ls hl => ?_)
        refine lv_iload_n hx hb dJ6_getChars_ba4f3_41 rfl (lv_at hl 1 rfl) ?_
        refine lv_istore_n (lv' := [(0, .int (x0 / (100 : Int32))), (4, .int y25), (3, .int (x0 / (100 : Int32))), (2, .ref x2), (5, .int x5), (6, .int x6)]) hx hb dJ6_getChars_ba4f3_42 rfl hl (by decide) rfl (fun ls hl => ?_)
        refine lv_aload_n hx hb dJ6_getChars_ba4f3_43 rfl (lv_at hl 3 rfl) ?_
        refine lv_iinc (v := (x5 + (-1 : Int32))) (lv' := [(5, .int (x5 + (-1 : Int32))), (0, .int (x0 / (100 : Int32))), (4, .int y25), (3, .int (x0 / (100 : Int32))), (2, .ref x2), (6, .int x6)]) hx hb dJ6_getChars_ba4f3_44 hl (k := 4) rfl rfl (by decide) rfl (fun ls hl => ?_)
        refine lv_iload hx hb dJ6_getChars_ba4f3_47 (lv_at hl 0 rfl) ?_
        obtain ⟨t26, hz27, ht28⟩ := hE.2.1.2.2.1
        refine va_gets (v := .ref t26) hx hb hz27 hS hown hw1 (fun _ h9 => h9) dJ6_getChars_ba4f3_49 ?_
        refine lv_iload hx hb dJ6_getChars_ba4f3_52 (lv_at hl 2 rfl) ?_
        obtain ⟨hv29, h⟩ := h
        refine va_tb (v := .int (nI (48 + (y25).toNatClampNeg % 10))) hx hb ht28 hS hv29 rfl dJ6_getChars_ba4f3_54 ?_
        obtain ⟨n30, f31, hm33, hv34, h⟩ := h
        replace h := h _ rfl
        refine k_bast hx hb hK hR hS hm33 hv34 dJ6_getChars_ba4f3_55 (fun H locs hR hS => ?_)
        refine lv_aload_n hx hb dJ6_getChars_ba4f3_56 rfl (lv_at hl 4 rfl) ?_
        refine lv_iinc (v := ((x5 + (-1 : Int32)) + (-1 : Int32))) (lv' := [(5, .int ((x5 + (-1 : Int32)) + (-1 : Int32))), (0, .int (x0 / (100 : Int32))), (4, .int y25), (3, .int (x0 / (100 : Int32))), (2, .ref x2), (6, .int x6)]) hx hb dJ6_getChars_ba4f3_57 hl (k := 0) rfl rfl (by decide) rfl (fun ls hl => ?_)
        refine lv_iload hx hb dJ6_getChars_ba4f3_60 (lv_at hl 0 rfl) ?_
        obtain ⟨t35, hz36, ht37⟩ := hE.2.1.2.1
        refine va_gets (v := .ref t35) hx hb hz36 hS hown hw2 (fun _ h9 => h9) dJ6_getChars_ba4f3_62 ?_
        refine lv_iload hx hb dJ6_getChars_ba4f3_65 (lv_at hl 2 rfl) ?_
        obtain ⟨hv38, h⟩ := h
        refine va_tb (v := .int (nI (48 + (y25).toNatClampNeg / 10))) hx hb ht37 hS hv38 rfl dJ6_getChars_ba4f3_67 ?_
        obtain ⟨n39, f40, hm42, hv43, h⟩ := h
        replace h := h _ rfl
        refine k_bast hx hb hK hR hS hm42 hv43 dJ6_getChars_ba4f3_68 (fun H locs hR hS => ?_)
        refine lv_goto (tgt := 22) hx hb dJ6_getChars_ba4f3_69 (by decide) ?_
        exact ih _ _ _ _ _ _ _ _ h (lv_sub hl [1, 4, 0, 5] rfl) hR hS
  have b12 : ∀ (x0 : Int32) (x2 : Nat) (x5 : Int32) (s0 : Int32) (M : k_M) (H : Heap) (locs : List Loc) (ls : Array Slot), wp_J6_getChars_ba4f3_b12 G post x0 x2 x5 s0 M → lv_has ls 7 [(0, .int x0), (2, .ref x2), (5, .int x5)] → kR G M (kA M0 s.heap.size) H → va_S (kA M0 s.heap.size) s.heap H locs → W p l e (headSpec wsJ6_getChars_ba4f3 ({ frames := 0, cells := 0, slots := 0, locals := 0 })).room s m ([.int p0, .int p1, .ref p2] : List Value).toArray below meth c H locs 0 0 (MQ below (va_Qi post (kB G M0 s.heap.size) (kA M0 s.heap.size)) ([.int p0, .int p1, .ref p2] : List Value).toArray s 0 0 (kA M0 s.heap.size)) (F0 m 12 ls [.int s0]) := by
    intro x0 x2 x5 s0 M H locs ls h hl hR hS
    refine lv_istore (lv' := [(6, .int s0), (0, .int x0), (2, .ref x2), (5, .int x5)]) hx hb dJ6_getChars_ba4f3_12 hl (by decide) rfl (fun ls hl => ?_)
    refine lv_iload hx hb dJ6_getChars_ba4f3_14 (lv_at hl 0 rfl) ?_
    obtain ⟨ha, hb2⟩ := h
    refine lv_if_ne (tgt := 22) hx hb dJ6_getChars_ba4f3_16 (by decide) (fun hc => ?_) (fun hc => ?_)
    · replace h := ha hc
      obtain ⟨k1, h⟩ := h
      exact L22 k1 _ _ _ _ _ _ _ _ h (lv_sub hl [1, 2, 3, 0] rfl) hR hS
    · replace h := hb2 hc
      refine lv_iload_n hx hb dJ6_getChars_ba4f3_19 rfl (lv_at hl 1 rfl) ?_
      refine lv_ineg hx hb dJ6_getChars_ba4f3_20 ?_
      refine lv_istore_n (lv' := [(0, .int (-x0)), (6, .int s0), (2, .ref x2), (5, .int x5)]) hx hb dJ6_getChars_ba4f3_21 rfl hl (by decide) rfl (fun ls hl => ?_)
      obtain ⟨k44, h⟩ := h
      exact L22 k44 _ _ _ _ _ _ _ _ h (lv_sub hl [0, 2, 3, 1] rfl) hR hS
  have hl := lv_entry ([.int p0, .int p1, .ref p2]) (n := 7) (Nat.le_of_ble_eq_true rfl)
  rw [lg_entry_eq]
  generalize (lg_sl ([.int p0, .int p1, .ref p2]) ++ List.replicate (7 - (lg_sl ([.int p0, .int p1, .ref p2])).length) Slot.unset).toArray = ls at hl ⊢
  have hl : lv_has ls 7 [(0, .int p0), (1, .int p1), (2, .ref p2)] := hl
  have hR0 := hR
  refine lv_iload_n hx hb dJ6_getChars_ba4f3_0 rfl (lv_at hl 1 rfl) ?_
  refine lv_istore (lv' := [(5, .int p1), (0, .int p0), (1, .int p1), (2, .ref p2)]) hx hb dJ6_getChars_ba4f3_1 hl (by decide) rfl (fun ls hl => ?_)
  refine lv_iload_n hx hb dJ6_getChars_ba4f3_3 rfl (lv_at hl 1 rfl) ?_
  obtain ⟨ha, hb2⟩ := h
  refine lv_if_ge (tgt := 11) hx hb dJ6_getChars_ba4f3_4 (by decide) (fun hc => ?_) (fun hc => ?_)
  · replace h := ha hc
    refine lv_iconst (v := (0 : Int32)) hx hb dJ6_getChars_ba4f3_11 (by decide) ?_
    exact b12 _ _ _ _ _ _ _ _ h (lv_sub hl [1, 3, 0] rfl) hR hS
  · replace h := hb2 hc
    refine lv_iconst (v := (1 : Int32)) hx hb dJ6_getChars_ba4f3_7 (by decide) ?_
    refine lv_goto (tgt := 12) hx hb dJ6_getChars_ba4f3_8 (by decide) ?_
    exact b12 _ _ _ _ _ _ _ _ h (lv_sub hl [1, 3, 0] rfl) hR hS

def wp_J5_append_c97b9_b48 (G : k_G) (mc ms : Nat) (post : Option Nat → k_M → Prop) (x0 : Nat) (x3 : Int32) (kc : Nat) (ks : Nat) (M : k_M) : Prop :=
  (∃ fs37, M x0 = some (kO 0 fs37) ∧ 3 < fs37.length ∧ ∀ M38 : k_M, M38 = va_up M x0 (some (kO 0 (fs37.set 3 (.int x3)))) →
    kc ≤ mc ∧ ks ≤ ms ∧ post (some x0) M38)
def wp_J5_append_c97b9 (G : k_G) (mc ms : Nat) (post : Option Nat → k_M → Prop) (p0 : Nat) (p1 : Int32) (M0 : k_M) : Prop :=
  (∃ fs1 v2, M0 p0 = some (kO 0 fs1) ∧ fs1[3]? = some (.int v2) ∧
  (0 ≤ mc ∧ 0 ≤ ms ∧ wp_J6_stringSize_0f7a4 G (fun r5 M6 =>
  (∃ fs15, M6 p0 = some (kO 0 fs15) ∧ (∃ mc10 ms11 : Nat, 0 + mc10 ≤ mc ∧ 0 + ms11 ≤ ms ∧ wp_J5_ensureCapacityInternal_d00df G mc10 ms11 (fun M13 =>
  (∃ fs21, M13 p0 = some (kO 0 fs21) ∧ ((0 + mc10) ≤ mc ∧ (0 + ms11) ≤ ms ∧ wp_J5_isLatin1_aae02 G (fun r18 M19 =>
  ((r18 = 0 →
  (∃ fs24 v25, M19 p0 = some (kO 0 fs24) ∧ fs24[0]? = some (.ref v25) ∧
    False)) ∧
  (¬ r18 = 0 →
  (∃ fs28 v29, M19 p0 = some (kO 0 fs28) ∧ fs28[0]? = some (.ref v29) ∧
    ((0 + mc10) ≤ mc ∧ (0 + ms11) ≤ ms ∧ wp_J6_getChars_ba4f3 G (fun r32 M33 =>
    wp_J5_append_c97b9_b48 G mc ms post p0 (v2 + r5) (0 + mc10) (0 + ms11) M33) p1 (v2 + r5) v29 M19))))) p0 M13))) p0 (v2 + r5) M6))) p1 M0))
theorem in_J5_append_c97b9_J4 : ∀ w ∈ wsJ40, w ∈ wsJ5_append_c97b9 := by decide +kernel
set_option maxHeartbeats 4000000 in
set_option maxRecDepth 100000 in
theorem c_J5_append_c97b9 (l : Launch) (G : k_G) (mc ms : Nat) (M0 : k_M) (sz : Nat) (post : Option Nat → k_M → Prop) (p0 : Nat) (p1 : Int32) (h : wp_J5_append_c97b9 G mc ms post p0 p1 M0) : Met l yJ5_append_c97b9 wsJ5_append_c97b9 ({ frames := 4, cells := mc, slots := ms, locals := 86 }) (va_Pc [.ref p0, .int p1] (kPre G M0 sz)) (va_Qq post (kB G M0 sz) (kA M0 sz)) mc ms (kA M0 sz) := by
  refine Met.ofW (cc := cJ5_append_c97b9) (maxL := 4) (ret := (some (.object "java/lang/AbstractStringBuilder"))) (by decide) rfl ?_
  intro p e s m args below meth c s₁ B hml hv
  obtain ⟨rfl, hsz, hR, hE⟩ := hv
  have hx := B.exec
  have hb := B.bytes
  have hr := B.returns
  have hts := atoms_spec (ws := wsJ5_append_c97b9) B.pre
  have hown : s.vm.findClass RJ5 = some m.cls := findClass_of_methodNamed B.named
  have hlocks := B.notSynchronized
  subst hsz
  have hK := hE.1
  have hA : ∀ q, s.heap.size ≤ q → kA M0 s.heap.size q := kA.new
  have hS : va_S (kA M0 s.heap.size) s.heap s.heap [] := va_S.rf
  have hw1 := hts (.fieldLink RJ5 79 "java/lang/AbstractStringBuilder" "count" "I") (by decide +kernel)
  have hw2 := hts (.fieldLink RJ5 15 "java/lang/AbstractStringBuilder" "value" "[B") (by decide +kernel)
  have b48 : ∀ (x0 : Nat) (x3 : Int32) (kc : Nat) (ks : Nat) (M : k_M) (H : Heap) (locs : List Loc) (ls : Array Slot), wp_J5_append_c97b9_b48 G mc ms post x0 x3 kc ks M → lv_has ls 4 [(0, .ref x0), (3, .int x3)] → kR G M (kA M0 s.heap.size) H → va_S (kA M0 s.heap.size) s.heap H locs → W p l e (headSpec wsJ5_append_c97b9 ({ frames := 4, cells := mc, slots := ms, locals := 86 })).room s m ([.ref p0, .int p1] : List Value).toArray below meth c H locs kc ks (MQ below (va_Qq post (kB G M0 s.heap.size) (kA M0 s.heap.size)) ([.ref p0, .int p1] : List Value).toArray s mc ms (kA M0 s.heap.size)) (F0 m 48 ls []) := by
    intro x0 x3 kc ks M H locs ls h hl hR hS
    refine lv_aload_n hx hb dJ5_append_c97b9_48 rfl (lv_at hl 0 rfl) ?_
    refine lv_iload_n hx hb dJ5_append_c97b9_49 rfl (lv_at hl 1 rfl) ?_
    obtain ⟨fs37, hm39, hk40, h⟩ := h
    replace h := h _ rfl
    refine k_put (ci := 0) (v := .int x3) (ty := .int) (C := RJ4) (T := TJ4) (N := 4) hx hb hts in_J5_append_c97b9_J4 tyJ4 tyJ4_ok nmJ4 hown hK hR hS hm39 rfl 3 (by decide) hw1 (fun _ h9 => h9) rfl (by decide +kernel) rfl rfl hk40 dJ5_append_c97b9_50 (fun H locs hR hS => ?_)
    refine lv_aload_n hx hb dJ5_append_c97b9_53 rfl (lv_at hl 0 rfl) ?_
    obtain ⟨hwc, hws, h⟩ := h
    refine W.widen (k := mc) (n := ms) hwc hws ?_
    exact k_retq hx hb hr (by first | exact Or.inl ⟨_, rfl⟩ | exact Or.inr ⟨_, rfl⟩) hlocks hR hS h dJ5_append_c97b9_54
  have hl := lv_entry ([.ref p0, .int p1]) (n := 4) (Nat.le_of_ble_eq_true rfl)
  rw [lg_entry_eq]
  generalize (lg_sl ([.ref p0, .int p1]) ++ List.replicate (4 - (lg_sl ([.ref p0, .int p1])).length) Slot.unset).toArray = ls at hl ⊢
  have hl : lv_has ls 4 [(0, .ref p0), (1, .int p1)] := hl
  have hR0 := hR
  refine lv_aload_n hx hb dJ5_append_c97b9_0 rfl (lv_at hl 0 rfl) ?_
  obtain ⟨fs1, v2, hm3, hv4, h⟩ := h
  refine k_get (ci := 0) (C := RJ4) (T := TJ4) (N := 4) hx hb hts in_J5_append_c97b9_J4 hown hK hR hm3 rfl 3 (by decide) hw1 (fun _ h9 => h9) hv4 dJ5_append_c97b9_1 ?_
  refine lv_istore_n (lv' := [(2, .int v2), (0, .ref p0), (1, .int p1)]) hx hb dJ5_append_c97b9_4 rfl hl (by decide) rfl (fun ls hl => ?_)
  refine lv_iload_n hx hb dJ5_append_c97b9_5 rfl (lv_at hl 0 rfl) ?_
  refine lv_iload_n hx hb dJ5_append_c97b9_6 rfl (lv_at hl 2 rfl) ?_
  obtain ⟨hc8, hc9, h⟩ := h
  refine k_calli0 (va_runS (As := [.int p1]) (rest := [.int v2]) ⟨hx, hb, hml, hown, hts⟩ (c_J6_stringSize_0f7a4 l G _ _ _ p1 h) (va_cwS 1 hts gJ5_append_c97b9_J6_stringSize_0f7a4 rfl rfl rfl (by decide +kernel) ⟨Nat.le_of_ble_eq_true rfl, Nat.le_of_ble_eq_true rfl⟩) (k_preS hR hS hA hE) rfl rfl hl.1 rfl (lv_room (Nat.le_of_ble_eq_true rfl)) dJ5_append_c97b9_7 ⟨hc8, hc9⟩) hR hS hA (fun r5 M6 H locs h hR hS => ?_)
  refine lv_iadd hx hb dJ5_append_c97b9_10 ?_
  refine lv_istore_n (lv' := [(3, .int (v2 + r5)), (2, .int v2), (0, .ref p0), (1, .int p1)]) hx hb dJ5_append_c97b9_11 rfl hl (by decide) rfl (fun ls hl => ?_)
  refine lv_aload_n hx hb dJ5_append_c97b9_12 rfl (lv_at hl 2 rfl) ?_
  refine lv_iload_n hx hb dJ5_append_c97b9_13 rfl (lv_at hl 0 rfl) ?_
  obtain ⟨fs15, hm14, h⟩ := h
  obtain ⟨mc10, ms11, hc16, hc17, h⟩ := h
  refine k_callv (va_runU (As := [.int (v2 + r5)]) (rest := []) ⟨hx, hb, hml, hown, hts⟩ (c_J5_ensureCapacityInternal_d00df l G mc10 ms11 _ _ _ p0 (v2 + r5) h) (va_cwU 1 hts gJ5_append_c97b9_J5_ensureCapacityInternal_d00df_u100J4 rfl rfl rfl rfl (by decide +kernel) ⟨Nat.le_of_ble_eq_true rfl, Nat.le_of_ble_eq_true rfl⟩) (k_preV (q := (RJ4, TJ4, 4)) hm14 rfl hR hS hA hE) rfl rfl hl.1 rfl (lv_room (Nat.le_of_ble_eq_true rfl)) dJ5_append_c97b9_14 ⟨hc16, hc17⟩) hR hS hA (fun M13 H locs h hR hS => ?_)
  refine lv_aload_n hx hb dJ5_append_c97b9_17 rfl (lv_at hl 2 rfl) ?_
  obtain ⟨fs21, hm20, h⟩ := h
  obtain ⟨hc22, hc23, h⟩ := h
  refine k_calli0 (va_runU (As := []) (rest := []) ⟨hx, hb, hml, hown, hts⟩ (c_J5_isLatin1_aae02 l G _ _ _ p0 h) (va_cwU 0 hts gJ5_append_c97b9_J5_isLatin1_aae02_u83J4 rfl rfl rfl rfl (by decide +kernel) ⟨Nat.le_of_ble_eq_true rfl, Nat.le_of_ble_eq_true rfl⟩) (k_preV (q := (RJ4, TJ4, 4)) hm20 rfl hR hS hA hE) rfl rfl hl.1 rfl (lv_room (Nat.le_of_ble_eq_true rfl)) dJ5_append_c97b9_18 ⟨hc22, hc23⟩) hR hS hA (fun r18 M19 H locs h hR hS => ?_)
  obtain ⟨ha, hb2⟩ := h
  refine lv_if_eq (tgt := 37) hx hb dJ5_append_c97b9_21 (by decide) (fun hc => ?_) (fun hc => ?_)
  · replace h := ha hc
    refine lv_iload_n hx hb dJ5_append_c97b9_37 rfl (lv_at hl 3 rfl) ?_
    refine lv_iload_n hx hb dJ5_append_c97b9_38 rfl (lv_at hl 1 rfl) ?_
    refine lv_iload_n hx hb dJ5_append_c97b9_39 rfl (lv_at hl 0 rfl) ?_
    refine lv_aload_n hx hb dJ5_append_c97b9_40 rfl (lv_at hl 2 rfl) ?_
    obtain ⟨fs24, v25, hm26, hv27, h⟩ := h
    refine k_get (ci := 0) (C := RJ4) (T := TJ4) (N := 4) hx hb hts in_J5_append_c97b9_J4 hown hK hR hm26 rfl 0 (by decide) hw2 (fun _ h9 => h9) hv27 dJ5_append_c97b9_41 ?_
    exact h.elim
  · replace h := hb2 hc
    refine lv_iload_n hx hb dJ5_append_c97b9_24 rfl (lv_at hl 3 rfl) ?_
    refine lv_iload_n hx hb dJ5_append_c97b9_25 rfl (lv_at hl 0 rfl) ?_
    refine lv_aload_n hx hb dJ5_append_c97b9_26 rfl (lv_at hl 2 rfl) ?_
    obtain ⟨fs28, v29, hm30, hv31, h⟩ := h
    refine k_get (ci := 0) (C := RJ4) (T := TJ4) (N := 4) hx hb hts in_J5_append_c97b9_J4 hown hK hR hm30 rfl 0 (by decide) hw2 (fun _ h9 => h9) hv31 dJ5_append_c97b9_27 ?_
    obtain ⟨hc35, hc36, h⟩ := h
    refine k_calli0 (va_runS (As := [.int p1, .int (v2 + r5), .ref v29]) (rest := []) ⟨hx, hb, hml, hown, hts⟩ (c_J6_getChars_ba4f3 l G _ _ _ p1 (v2 + r5) v29 h) (va_cwS 3 hts gJ5_append_c97b9_J6_getChars_ba4f3 rfl rfl rfl (by decide +kernel) ⟨Nat.le_of_ble_eq_true rfl, Nat.le_of_ble_eq_true rfl⟩) (k_preS hR hS hA hE) rfl rfl hl.1 rfl (lv_room (Nat.le_of_ble_eq_true rfl)) dJ5_append_c97b9_30 ⟨hc35, hc36⟩) hR hS hA (fun r32 M33 H locs h hR hS => ?_)
    refine lv_pop hx hb dJ5_append_c97b9_33 rfl ?_
    refine lv_goto (tgt := 48) hx hb dJ5_append_c97b9_34 (by decide) ?_
    exact b48 _ _ _ _ _ _ _ _ h (lv_sub hl [2, 0] rfl) hR hS

def wp_J4_append_bf812 (G : k_G) (mc ms : Nat) (post : Option Nat → k_M → Prop) (p0 : Nat) (p1 : Int32) (M0 : k_M) : Prop :=
  (∃ fs6, M0 p0 = some (kO 0 fs6) ∧ (∃ mc1 ms2 : Nat, 0 + mc1 ≤ mc ∧ 0 + ms2 ≤ ms ∧ wp_J5_append_c97b9 G mc1 ms2 (fun r3 M4 => ∃ v9, r3 = some v9 ∧
  (0 + mc1) ≤ mc ∧ (0 + ms2) ≤ ms ∧ post (some p0) M4) p0 p1 M0))
set_option maxHeartbeats 4000000 in
set_option maxRecDepth 100000 in
theorem c_J4_append_bf812 (l : Launch) (G : k_G) (mc ms : Nat) (M0 : k_M) (sz : Nat) (post : Option Nat → k_M → Prop) (p0 : Nat) (p1 : Int32) (h : wp_J4_append_bf812 G mc ms post p0 p1 M0) : Met l yJ4_append_bf812 wsJ4_append_bf812 ({ frames := 5, cells := mc, slots := ms, locals := 109 }) (va_Pc [.ref p0, .int p1] (kPre G M0 sz)) (va_Qq post (kB G M0 sz) (kA M0 sz)) mc ms (kA M0 sz) := by
  refine Met.ofW (cc := cJ4_append_bf812) (maxL := 2) (ret := (some (.object "java/lang/StringBuilder"))) (by decide) rfl ?_
  intro p e s m args below meth c s₁ B hml hv
  obtain ⟨rfl, hsz, hR, hE⟩ := hv
  have hx := B.exec
  have hb := B.bytes
  have hr := B.returns
  have hts := atoms_spec (ws := wsJ4_append_bf812) B.pre
  have hown : s.vm.findClass RJ4 = some m.cls := findClass_of_methodNamed B.named
  have hlocks := B.notSynchronized
  subst hsz
  have hK := hE.1
  have hA : ∀ q, s.heap.size ≤ q → kA M0 s.heap.size q := kA.new
  have hS : va_S (kA M0 s.heap.size) s.heap s.heap [] := va_S.rf
  have hl := lv_entry ([.ref p0, .int p1]) (n := 2) (Nat.le_of_ble_eq_true rfl)
  rw [lg_entry_eq]
  generalize (lg_sl ([.ref p0, .int p1]) ++ List.replicate (2 - (lg_sl ([.ref p0, .int p1])).length) Slot.unset).toArray = ls at hl ⊢
  have hl : lv_has ls 2 [(0, .ref p0), (1, .int p1)] := hl
  have hR0 := hR
  refine lv_aload_n hx hb dJ4_append_bf812_0 rfl (lv_at hl 0 rfl) ?_
  refine lv_iload_n hx hb dJ4_append_bf812_1 rfl (lv_at hl 1 rfl) ?_
  obtain ⟨fs6, hm5, h⟩ := h
  obtain ⟨mc1, ms2, hc7, hc8, h⟩ := h
  refine k_callq (va_runSU (As := [.int p1]) (rest := []) (hK.1 0 (RJ4, TJ4, 4) rfl).2 ⟨hx, hb, hml, hown, hts⟩ (c_J5_append_c97b9 l G mc1 ms2 _ _ _ p0 p1 h) (va_cwSU 1 hts gJ4_append_bf812_J5_append_c97b9_s53 rfl rfl rfl (by decide +kernel) ⟨Nat.le_of_ble_eq_true rfl, Nat.le_of_ble_eq_true rfl⟩) (k_preV (q := (RJ4, TJ4, 4)) hm5 rfl hR hS hA hE) rfl rfl hl.1 rfl (lv_room (Nat.le_of_ble_eq_true rfl)) dJ4_append_bf812_2 ⟨hc7, hc8⟩) hR hS hA (fun r3 M4 H locs h hR hS => ?_)
  obtain ⟨v9, rfl, h⟩ := h
  refine lv_pop hx hb dJ4_append_bf812_5 rfl ?_
  refine lv_aload_n hx hb dJ4_append_bf812_6 rfl (lv_at hl 0 rfl) ?_
  obtain ⟨hwc, hws, h⟩ := h
  refine W.widen (k := mc) (n := ms) hwc hws ?_
  exact k_retq hx hb hr (by first | exact Or.inl ⟨_, rfl⟩ | exact Or.inr ⟨_, rfl⟩) hlocks hR hS h dJ4_append_bf812_7

def wp_J5_length_8abf5 (G : k_G) (post : Int32 → k_M → Prop) (p0 : Nat) (M0 : k_M) : Prop :=
  (∃ fs1 v2, M0 p0 = some (kO 0 fs1) ∧ fs1[3]? = some (.int v2) ∧
  post v2 M0)
theorem in_J5_length_8abf5_J4 : ∀ w ∈ wsJ40, w ∈ wsJ5_length_8abf5 := by decide +kernel
set_option maxHeartbeats 4000000 in
set_option maxRecDepth 100000 in
theorem c_J5_length_8abf5 (l : Launch) (G : k_G) (M0 : k_M) (sz : Nat) (post : Int32 → k_M → Prop) (p0 : Nat) (h : wp_J5_length_8abf5 G post p0 M0) : Met l yJ5_length_8abf5 wsJ5_length_8abf5 ({ frames := 0, cells := 0, slots := 0, locals := 0 }) (va_Pc [.ref p0] (kPre G M0 sz)) (va_Qi post (kB G M0 sz) (kA M0 sz)) 0 0 (kA M0 sz) := by
  refine Met.ofW (cc := cJ5_length_8abf5) (maxL := 1) (ret := (some .int)) (by decide) rfl ?_
  intro p e s m args below meth c s₁ B hml hv
  obtain ⟨rfl, hsz, hR, hE⟩ := hv
  have hx := B.exec
  have hb := B.bytes
  have hr := B.returns
  have hts := atoms_spec (ws := wsJ5_length_8abf5) B.pre
  have hown : s.vm.findClass RJ5 = some m.cls := findClass_of_methodNamed B.named
  have hlocks := B.notSynchronized
  subst hsz
  have hK := hE.1
  have hA : ∀ q, s.heap.size ≤ q → kA M0 s.heap.size q := kA.new
  have hS : va_S (kA M0 s.heap.size) s.heap s.heap [] := va_S.rf
  have hw1 := hts (.fieldLink RJ5 79 "java/lang/AbstractStringBuilder" "count" "I") (by decide +kernel)
  have hl := lv_entry ([.ref p0]) (n := 1) (Nat.le_of_ble_eq_true rfl)
  rw [lg_entry_eq]
  generalize (lg_sl ([.ref p0]) ++ List.replicate (1 - (lg_sl ([.ref p0])).length) Slot.unset).toArray = ls at hl ⊢
  have hl : lv_has ls 1 [(0, .ref p0)] := hl
  have hR0 := hR
  refine lv_aload_n hx hb dJ5_length_8abf5_0 rfl (lv_at hl 0 rfl) ?_
  obtain ⟨fs1, v2, hm3, hv4, h⟩ := h
  refine k_get (ci := 0) (C := RJ4) (T := TJ4) (N := 4) hx hb hts in_J5_length_8abf5_J4 hown hK hR hm3 rfl 3 (by decide) hw1 (fun _ h9 => h9) hv4 dJ5_length_8abf5_1 ?_
  exact k_reti hx hb hr hlocks rfl hR hS h dJ5_length_8abf5_4

def wp_J4_length_8abf5 (G : k_G) (post : Int32 → k_M → Prop) (p0 : Nat) (M0 : k_M) : Prop :=
  (∃ fs4, M0 p0 = some (kO 0 fs4) ∧ wp_J5_length_8abf5 G (fun r1 M2 =>
  post r1 M2) p0 M0)
set_option maxHeartbeats 4000000 in
set_option maxRecDepth 100000 in
theorem c_J4_length_8abf5 (l : Launch) (G : k_G) (M0 : k_M) (sz : Nat) (post : Int32 → k_M → Prop) (p0 : Nat) (h : wp_J4_length_8abf5 G post p0 M0) : Met l yJ4_length_8abf5 wsJ4_length_8abf5 ({ frames := 1, cells := 0, slots := 0, locals := 20 }) (va_Pc [.ref p0] (kPre G M0 sz)) (va_Qi post (kB G M0 sz) (kA M0 sz)) 0 0 (kA M0 sz) := by
  refine Met.ofW (cc := cJ4_length_8abf5) (maxL := 1) (ret := (some .int)) (by decide) rfl ?_
  intro p e s m args below meth c s₁ B hml hv
  obtain ⟨rfl, hsz, hR, hE⟩ := hv
  have hx := B.exec
  have hb := B.bytes
  have hr := B.returns
  have hts := atoms_spec (ws := wsJ4_length_8abf5) B.pre
  have hown : s.vm.findClass RJ4 = some m.cls := findClass_of_methodNamed B.named
  have hlocks := B.notSynchronized
  subst hsz
  have hK := hE.1
  have hA : ∀ q, s.heap.size ≤ q → kA M0 s.heap.size q := kA.new
  have hS : va_S (kA M0 s.heap.size) s.heap s.heap [] := va_S.rf
  have hl := lv_entry ([.ref p0]) (n := 1) (Nat.le_of_ble_eq_true rfl)
  rw [lg_entry_eq]
  generalize (lg_sl ([.ref p0]) ++ List.replicate (1 - (lg_sl ([.ref p0])).length) Slot.unset).toArray = ls at hl ⊢
  have hl : lv_has ls 1 [(0, .ref p0)] := hl
  have hR0 := hR
  refine lv_aload_n hx hb dJ4_length_8abf5_0 rfl (lv_at hl 0 rfl) ?_
  obtain ⟨fs4, hm3, h⟩ := h
  refine k_calli0 (va_runSU (As := []) (rest := []) (hK.1 0 (RJ4, TJ4, 4) rfl).2 ⟨hx, hb, hml, hown, hts⟩ (c_J5_length_8abf5 l G _ _ _ p0 h) (va_cwSU 0 hts gJ4_length_8abf5_J5_length_8abf5_s343 rfl rfl rfl (by decide +kernel) ⟨Nat.le_of_ble_eq_true rfl, Nat.le_of_ble_eq_true rfl⟩) (k_preV (q := (RJ4, TJ4, 4)) hm3 rfl hR hS hA hE) rfl rfl hl.1 rfl (lv_room (Nat.le_of_ble_eq_true rfl)) dJ4_length_8abf5_1 ⟨Nat.zero_le _, Nat.zero_le _⟩) hR hS hA (fun r1 M2 H locs h hR hS => ?_)
  exact k_reti hx hb hr hlocks rfl hR hS h dJ4_length_8abf5_4

def wp_J3_checkIndex_8e157_vn (G : k_G) (post : Int32 → k_M → Prop) (p0 : Int32) (p1 : Int32) (M0 : k_M) : Prop :=
  ((p0 < 0 →
  False) ∧
  (¬ p0 < 0 →
  ((p0 < p1 →
    post p0 M0) ∧
    (¬ p0 < p1 →
    False))))
set_option maxHeartbeats 4000000 in
set_option maxRecDepth 100000 in
theorem c_J3_checkIndex_8e157_vn (l : Launch) (G : k_G) (M0 : k_M) (sz : Nat) (post : Int32 → k_M → Prop) (p0 : Int32) (p1 : Int32) (h : wp_J3_checkIndex_8e157_vn G post p0 p1 M0) : Met l yJ3_checkIndex_8e157 wsJ3_checkIndex_8e157 ({ frames := 0, cells := 0, slots := 0, locals := 0 }) (va_Pc [.int p0, .int p1, .null] (kPre G M0 sz)) (va_Qi post (kB G M0 sz) (kA M0 sz)) 0 0 (kA M0 sz) := by
  refine Met.ofW (cc := cJ3_checkIndex_8e157) (maxL := 3) (ret := (some .int)) (by decide) rfl ?_
  intro p e s m args below meth c s₁ B hml hv
  obtain ⟨rfl, hsz, hR, hE⟩ := hv
  have hx := B.exec
  have hb := B.bytes
  have hr := B.returns
  have hts := atoms_spec (ws := wsJ3_checkIndex_8e157) B.pre
  have hown : s.vm.findClass RJ3 = some m.cls := findClass_of_methodNamed B.named
  have hlocks := B.notSynchronized
  subst hsz
  have hK := hE.1
  have hA : ∀ q, s.heap.size ≤ q → kA M0 s.heap.size q := kA.new
  have hS : va_S (kA M0 s.heap.size) s.heap s.heap [] := va_S.rf
  have hl := lv_entry ([.int p0, .int p1, .null]) (n := 3) (Nat.le_of_ble_eq_true rfl)
  rw [lg_entry_eq]
  generalize (lg_sl ([.int p0, .int p1, .null]) ++ List.replicate (3 - (lg_sl ([.int p0, .int p1, .null])).length) Slot.unset).toArray = ls at hl ⊢
  have hl : lv_has ls 3 [(0, .int p0), (1, .int p1), (2, .null)] := hl
  have hR0 := hR
  refine lv_iload_n hx hb dJ3_checkIndex_8e157_0 rfl (lv_at hl 0 rfl) ?_
  obtain ⟨ha, hb2⟩ := h
  refine lv_if_lt (tgt := 9) hx hb dJ3_checkIndex_8e157_1 (by decide) (fun hc => ?_) (fun hc => ?_)
  · replace h := ha hc
    refine lv_aload_nN hx hb dJ3_checkIndex_8e157_9 rfl (lv_at hl 2 rfl) ?_
    refine lv_iload_n hx hb dJ3_checkIndex_8e157_10 rfl (lv_at hl 0 rfl) ?_
    refine lv_iload_n hx hb dJ3_checkIndex_8e157_11 rfl (lv_at hl 1 rfl) ?_
    exact h.elim
  · replace h := hb2 hc
    refine lv_iload_n hx hb dJ3_checkIndex_8e157_4 rfl (lv_at hl 0 rfl) ?_
    refine lv_iload_n hx hb dJ3_checkIndex_8e157_5 rfl (lv_at hl 1 rfl) ?_
    obtain ⟨ha, hb2⟩ := h
    refine lv_icmp_lt (tgt := 16) hx hb dJ3_checkIndex_8e157_6 (by decide) (fun hc => ?_) (fun hc => ?_)
    · replace h := ha hc
      refine lv_iload_n hx hb dJ3_checkIndex_8e157_16 rfl (lv_at hl 0 rfl) ?_
      exact k_reti hx hb hr hlocks rfl hR hS h dJ3_checkIndex_8e157_17
    · replace h := hb2 hc
      refine lv_aload_nN hx hb dJ3_checkIndex_8e157_9 rfl (lv_at hl 2 rfl) ?_
      refine lv_iload_n hx hb dJ3_checkIndex_8e157_10 rfl (lv_at hl 0 rfl) ?_
      refine lv_iload_n hx hb dJ3_checkIndex_8e157_11 rfl (lv_at hl 1 rfl) ?_
      exact h.elim

def wp_J3_checkIndex_8e157 (G : k_G) (post : Int32 → k_M → Prop) (p0 : Int32) (p1 : Int32) (p2 : Nat) (M0 : k_M) : Prop :=
  ((p0 < 0 →
  False) ∧
  (¬ p0 < 0 →
  ((p0 < p1 →
    post p0 M0) ∧
    (¬ p0 < p1 →
    False))))
set_option maxHeartbeats 4000000 in
set_option maxRecDepth 100000 in
theorem c_J3_checkIndex_8e157 (l : Launch) (G : k_G) (M0 : k_M) (sz : Nat) (post : Int32 → k_M → Prop) (p0 : Int32) (p1 : Int32) (p2 : Nat) (h : wp_J3_checkIndex_8e157 G post p0 p1 p2 M0) : Met l yJ3_checkIndex_8e157 wsJ3_checkIndex_8e157 ({ frames := 0, cells := 0, slots := 0, locals := 0 }) (va_Pc [.int p0, .int p1, .ref p2] (kPre G M0 sz)) (va_Qi post (kB G M0 sz) (kA M0 sz)) 0 0 (kA M0 sz) := by
  refine Met.ofW (cc := cJ3_checkIndex_8e157) (maxL := 3) (ret := (some .int)) (by decide) rfl ?_
  intro p e s m args below meth c s₁ B hml hv
  obtain ⟨rfl, hsz, hR, hE⟩ := hv
  have hx := B.exec
  have hb := B.bytes
  have hr := B.returns
  have hts := atoms_spec (ws := wsJ3_checkIndex_8e157) B.pre
  have hown : s.vm.findClass RJ3 = some m.cls := findClass_of_methodNamed B.named
  have hlocks := B.notSynchronized
  subst hsz
  have hK := hE.1
  have hA : ∀ q, s.heap.size ≤ q → kA M0 s.heap.size q := kA.new
  have hS : va_S (kA M0 s.heap.size) s.heap s.heap [] := va_S.rf
  have hl := lv_entry ([.int p0, .int p1, .ref p2]) (n := 3) (Nat.le_of_ble_eq_true rfl)
  rw [lg_entry_eq]
  generalize (lg_sl ([.int p0, .int p1, .ref p2]) ++ List.replicate (3 - (lg_sl ([.int p0, .int p1, .ref p2])).length) Slot.unset).toArray = ls at hl ⊢
  have hl : lv_has ls 3 [(0, .int p0), (1, .int p1), (2, .ref p2)] := hl
  have hR0 := hR
  refine lv_iload_n hx hb dJ3_checkIndex_8e157_0 rfl (lv_at hl 0 rfl) ?_
  obtain ⟨ha, hb2⟩ := h
  refine lv_if_lt (tgt := 9) hx hb dJ3_checkIndex_8e157_1 (by decide) (fun hc => ?_) (fun hc => ?_)
  · replace h := ha hc
    refine lv_aload_n hx hb dJ3_checkIndex_8e157_9 rfl (lv_at hl 2 rfl) ?_
    refine lv_iload_n hx hb dJ3_checkIndex_8e157_10 rfl (lv_at hl 0 rfl) ?_
    refine lv_iload_n hx hb dJ3_checkIndex_8e157_11 rfl (lv_at hl 1 rfl) ?_
    exact h.elim
  · replace h := hb2 hc
    refine lv_iload_n hx hb dJ3_checkIndex_8e157_4 rfl (lv_at hl 0 rfl) ?_
    refine lv_iload_n hx hb dJ3_checkIndex_8e157_5 rfl (lv_at hl 1 rfl) ?_
    obtain ⟨ha, hb2⟩ := h
    refine lv_icmp_lt (tgt := 16) hx hb dJ3_checkIndex_8e157_6 (by decide) (fun hc => ?_) (fun hc => ?_)
    · replace h := ha hc
      refine lv_iload_n hx hb dJ3_checkIndex_8e157_16 rfl (lv_at hl 0 rfl) ?_
      exact k_reti hx hb hr hlocks rfl hR hS h dJ3_checkIndex_8e157_17
    · replace h := hb2 hc
      refine lv_aload_n hx hb dJ3_checkIndex_8e157_9 rfl (lv_at hl 2 rfl) ?_
      refine lv_iload_n hx hb dJ3_checkIndex_8e157_10 rfl (lv_at hl 0 rfl) ?_
      refine lv_iload_n hx hb dJ3_checkIndex_8e157_11 rfl (lv_at hl 1 rfl) ?_
      exact h.elim

def wp_J0_checkIndex_df160 (G : k_G) (post : k_M → Prop) (p0 : Int32) (p1 : Int32) (M0 : k_M) : Prop :=
  (wp_J3_checkIndex_8e157_vn G (fun r3 M4 =>
    post M4) p0 p1 M0 ∧ ∀ t2 : Nat, wp_J3_checkIndex_8e157 G (fun r6 M7 =>
    post M7) p0 p1 t2 M0)
set_option maxHeartbeats 4000000 in
set_option maxRecDepth 100000 in
theorem c_J0_checkIndex_df160 (l : Launch) (G : k_G) (M0 : k_M) (sz : Nat) (post : k_M → Prop) (p0 : Int32) (p1 : Int32) (h : wp_J0_checkIndex_df160 G post p0 p1 M0) : Met l yJ0_checkIndex_df160 wsJ0_checkIndex_df160 ({ frames := 1, cells := 0, slots := 0, locals := 22 }) (va_Pc [.int p0, .int p1] (kPre G M0 sz)) (va_Qv post (kB G M0 sz) (kA M0 sz)) 0 0 (kA M0 sz) := by
  refine Met.ofW (cc := cJ0_checkIndex_df160) (maxL := 2) (ret := none) (by decide) rfl ?_
  intro p e s m args below meth c s₁ B hml hv
  obtain ⟨rfl, hsz, hR, hE⟩ := hv
  have hx := B.exec
  have hb := B.bytes
  have hr := B.returns
  have hts := atoms_spec (ws := wsJ0_checkIndex_df160) B.pre
  have hown : s.vm.findClass RJ0 = some m.cls := findClass_of_methodNamed B.named
  have hlocks := B.notSynchronized
  subst hsz
  have hK := hE.1
  have hA : ∀ q, s.heap.size ≤ q → kA M0 s.heap.size q := kA.new
  have hS : va_S (kA M0 s.heap.size) s.heap s.heap [] := va_S.rf
  have hw1 := hts (.fieldLink RJ0 1053 "jdk/internal/util/Preconditions" "SIOOBE_FORMATTER" "Ljava/util/function/BiFunction;") (by decide +kernel)
  have hl := lv_entry ([.int p0, .int p1]) (n := 2) (Nat.le_of_ble_eq_true rfl)
  rw [lg_entry_eq]
  generalize (lg_sl ([.int p0, .int p1]) ++ List.replicate (2 - (lg_sl ([.int p0, .int p1])).length) Slot.unset).toArray = ls at hl ⊢
  have hl : lv_has ls 2 [(0, .int p0), (1, .int p1)] := hl
  have hR0 := hR
  refine lv_iload_n hx hb dJ0_checkIndex_df160_0 rfl (lv_at hl 0 rfl) ?_
  refine lv_iload_n hx hb dJ0_checkIndex_df160_1 rfl (lv_at hl 1 rfl) ?_
  obtain ⟨ha, hb2⟩ := h
  rcases hE.2.1.2.2.2.1 with hz1 | ⟨t2, hz1⟩
  · replace h := ha
    refine va_gets (v := .null) hx hb hz1 hS hown hw1 (fun _ h9 => h9) dJ0_checkIndex_df160_2 ?_
    refine k_calli0 (va_runS (As := [.int p0, .int p1, .null]) (rest := []) ⟨hx, hb, hml, hown, hts⟩ (c_J3_checkIndex_8e157_vn l G _ _ _ p0 p1 h) (va_cwS 3 hts gJ0_checkIndex_df160_J3_checkIndex_8e157 rfl rfl rfl (by decide +kernel) ⟨Nat.le_of_ble_eq_true rfl, Nat.le_of_ble_eq_true rfl⟩) (k_preS hR hS hA hE) rfl rfl hl.1 rfl (lv_room (Nat.le_of_ble_eq_true rfl)) dJ0_checkIndex_df160_5 ⟨Nat.zero_le _, Nat.zero_le _⟩) hR hS hA (fun r3 M4 H locs h hR hS => ?_)
    refine lv_pop hx hb dJ0_checkIndex_df160_8 rfl ?_
    exact k_retv hx hb hr hlocks hR hS h dJ0_checkIndex_df160_9
  · replace h := hb2 t2
    refine va_gets (v := .ref t2) hx hb hz1 hS hown hw1 (fun _ h9 => h9) dJ0_checkIndex_df160_2 ?_
    refine k_calli0 (va_runS (As := [.int p0, .int p1, .ref t2]) (rest := []) ⟨hx, hb, hml, hown, hts⟩ (c_J3_checkIndex_8e157 l G _ _ _ p0 p1 t2 h) (va_cwS 3 hts gJ0_checkIndex_df160_J3_checkIndex_8e157 rfl rfl rfl (by decide +kernel) ⟨Nat.le_of_ble_eq_true rfl, Nat.le_of_ble_eq_true rfl⟩) (k_preS hR hS hA hE) rfl rfl hl.1 rfl (lv_room (Nat.le_of_ble_eq_true rfl)) dJ0_checkIndex_df160_5 ⟨Nat.zero_le _, Nat.zero_le _⟩) hR hS hA (fun r6 M7 H locs h hR hS => ?_)
    refine lv_pop hx hb dJ0_checkIndex_df160_8 rfl ?_
    exact k_retv hx hb hr hlocks hR hS h dJ0_checkIndex_df160_9

def wp_J5_charAt_5068e (G : k_G) (post : Int32 → k_M → Prop) (p0 : Nat) (p1 : Int32) (M0 : k_M) : Prop :=
  (∃ fs1 v2, M0 p0 = some (kO 0 fs1) ∧ fs1[1]? = some (.int v2) ∧
  (∃ fs5 v6, M0 p0 = some (kO 0 fs5) ∧ fs5[0]? = some (.ref v6) ∧
  (∃ fs9 v10, M0 p0 = some (kO 0 fs9) ∧ fs9[3]? = some (.int v10) ∧
  (∃ n13 f14, M0 v6 = some (kY G n13 f14) ∧
  (∀ y16 : Int32, y16 = (if ((nI n13) >>> (v2 &&& 31)) < v10 then ((nI n13) >>> (v2 &&& 31)) else v10) →
  wp_J0_checkIndex_df160 G (fun M18 =>
  ((¬ v2 = 0 →
  False) ∧
  (v2 = 0 →
  (∃ n20 f21, M18 v6 = some (kY G n20 f21) ∧ vp_in p1 n20 ∧
    (narrow .char (.int ((((f21 (p1).toNatClampNeg) &&& (255 : Int32))).toUInt32 % 65536).toInt32) = .int ((((f21 (p1).toNatClampNeg) &&& (255 : Int32))).toUInt32 % 65536).toInt32 ∧ post ((((f21 (p1).toNatClampNeg) &&& (255 : Int32))).toUInt32 % 65536).toInt32 M18))))) p1 y16 M0)))))
theorem in_J5_charAt_5068e_J4 : ∀ w ∈ wsJ40, w ∈ wsJ5_charAt_5068e := by decide +kernel
set_option maxHeartbeats 4000000 in
set_option maxRecDepth 100000 in
theorem c_J5_charAt_5068e (l : Launch) (G : k_G) (M0 : k_M) (sz : Nat) (post : Int32 → k_M → Prop) (p0 : Nat) (p1 : Int32) (h : wp_J5_charAt_5068e G post p0 p1 M0) : Met l yJ5_charAt_5068e wsJ5_charAt_5068e ({ frames := 2, cells := 0, slots := 0, locals := 43 }) (va_Pc [.ref p0, .int p1] (kPre G M0 sz)) (va_Qi post (kB G M0 sz) (kA M0 sz)) 0 0 (kA M0 sz) := by
  refine Met.ofW (cc := cJ5_charAt_5068e) (maxL := 5) (ret := (some .char)) (by decide) rfl ?_
  intro p e s m args below meth c s₁ B hml hv
  obtain ⟨rfl, hsz, hR, hE⟩ := hv
  have hx := B.exec
  have hb := B.bytes
  have hr := B.returns
  have hts := atoms_spec (ws := wsJ5_charAt_5068e) B.pre
  have hown : s.vm.findClass RJ5 = some m.cls := findClass_of_methodNamed B.named
  have hlocks := B.notSynchronized
  subst hsz
  have hK := hE.1
  have hA : ∀ q, s.heap.size ≤ q → kA M0 s.heap.size q := kA.new
  have hS : va_S (kA M0 s.heap.size) s.heap s.heap [] := va_S.rf
  have hw1 := hts (.fieldLink RJ5 22 "java/lang/AbstractStringBuilder" "coder" "B") (by decide +kernel)
  have hw2 := hts (.fieldLink RJ5 15 "java/lang/AbstractStringBuilder" "value" "[B") (by decide +kernel)
  have hw3 := hts (.fieldLink RJ5 79 "java/lang/AbstractStringBuilder" "count" "I") (by decide +kernel)
  have hw4 := hts (.methodLink RJ5 138 Lib.Math.min.name) (by decide +kernel)
  have hw5 := hts (.static Lib.Math.min.name) (by decide +kernel)
  have hw6 := hts (.initialized "java/lang/Math") (by decide +kernel)
  have hw7 := hts (.code Lib.Math.min.name Lib.Math.min.code 2 (some .int)) (by decide +kernel)
  have hl := lv_entry ([.ref p0, .int p1]) (n := 5) (Nat.le_of_ble_eq_true rfl)
  rw [lg_entry_eq]
  generalize (lg_sl ([.ref p0, .int p1]) ++ List.replicate (5 - (lg_sl ([.ref p0, .int p1])).length) Slot.unset).toArray = ls at hl ⊢
  have hl : lv_has ls 5 [(0, .ref p0), (1, .int p1)] := hl
  have hR0 := hR
  refine lv_aload_n hx hb dJ5_charAt_5068e_0 rfl (lv_at hl 0 rfl) ?_
  obtain ⟨fs1, v2, hm3, hv4, h⟩ := h
  refine k_get (ci := 0) (C := RJ4) (T := TJ4) (N := 4) hx hb hts in_J5_charAt_5068e_J4 hown hK hR hm3 rfl 1 (by decide) hw1 (fun _ h9 => h9) hv4 dJ5_charAt_5068e_1 ?_
  refine lv_istore_n (lv' := [(2, .int v2), (0, .ref p0), (1, .int p1)]) hx hb dJ5_charAt_5068e_4 rfl hl (by decide) rfl (fun ls hl => ?_)
  refine lv_aload_n hx hb dJ5_charAt_5068e_5 rfl (lv_at hl 1 rfl) ?_
  obtain ⟨fs5, v6, hm7, hv8, h⟩ := h
  refine k_get (ci := 0) (C := RJ4) (T := TJ4) (N := 4) hx hb hts in_J5_charAt_5068e_J4 hown hK hR hm7 rfl 0 (by decide) hw2 (fun _ h9 => h9) hv8 dJ5_charAt_5068e_6 ?_
  refine lv_astore_n (lv' := [(3, .ref v6), (2, .int v2), (0, .ref p0), (1, .int p1)]) hx hb dJ5_charAt_5068e_9 rfl hl (by decide) rfl (fun ls hl => ?_)
  refine lv_aload_n hx hb dJ5_charAt_5068e_10 rfl (lv_at hl 2 rfl) ?_
  obtain ⟨fs9, v10, hm11, hv12, h⟩ := h
  refine k_get (ci := 0) (C := RJ4) (T := TJ4) (N := 4) hx hb hts in_J5_charAt_5068e_J4 hown hK hR hm11 rfl 3 (by decide) hw3 (fun _ h9 => h9) hv12 dJ5_charAt_5068e_11 ?_
  refine lv_aload_n hx hb dJ5_charAt_5068e_14 rfl (lv_at hl 0 rfl) ?_
  obtain ⟨n13, f14, hm15, h⟩ := h
  refine k_alen hx hb hK hR 3 hm15 rfl dJ5_charAt_5068e_15 ?_
  refine lv_iload_n hx hb dJ5_charAt_5068e_16 rfl (lv_at hl 1 rfl) ?_
  refine lv_ishr hx hb dJ5_charAt_5068e_17 ?_
  refine va_mmin hx hb (by rw [hml]; exact hl.1.symm) hown hw4 hw5 hw6 hw7 (Nat.le_of_ble_eq_true rfl) (Nat.le_of_ble_eq_true rfl) (Nat.le_of_ble_eq_true rfl) (Nat.le_of_ble_eq_true rfl) dJ5_charAt_5068e_18 ?_
  refine lv_topi (fun y16 ey16 => ?_)
  replace h := h y16 ey16
  refine lv_istore (lv' := [(4, .int y16), (3, .ref v6), (2, .int v2), (0, .ref p0), (1, .int p1)]) hx hb dJ5_charAt_5068e_21 hl (by decide) rfl (fun ls hl => ?_)
  refine lv_iload_n hx hb dJ5_charAt_5068e_23 rfl (lv_at hl 4 rfl) ?_
  refine lv_iload hx hb dJ5_charAt_5068e_24 (lv_at hl 0 rfl) ?_
  refine k_callv0 (va_runS (As := [.int p1, .int y16]) (rest := []) ⟨hx, hb, hml, hown, hts⟩ (c_J0_checkIndex_df160 l G _ _ _ p1 y16 h) (va_cwS 2 hts gJ5_charAt_5068e_J0_checkIndex_df160 rfl rfl rfl (by decide +kernel) ⟨Nat.le_of_ble_eq_true rfl, Nat.le_of_ble_eq_true rfl⟩) (k_preS hR hS hA hE) rfl rfl hl.1 rfl (lv_room (Nat.le_of_ble_eq_true rfl)) dJ5_charAt_5068e_26 ⟨Nat.zero_le _, Nat.zero_le _⟩) hR hS hA (fun M18 H locs h hR hS => ?_)
  refine lv_iload_n hx hb dJ5_charAt_5068e_29 rfl (lv_at hl 2 rfl) ?_
  obtain ⟨ha, hb2⟩ := h
  refine lv_if_ne (tgt := 42) hx hb dJ5_charAt_5068e_30 (by decide) (fun hc => ?_) (fun hc => ?_)
  · replace h := ha hc
    refine lv_aload_n hx hb dJ5_charAt_5068e_42 rfl (lv_at hl 1 rfl) ?_
    refine lv_iload_n hx hb dJ5_charAt_5068e_43 rfl (lv_at hl 4 rfl) ?_
    exact h.elim
  · replace h := hb2 hc
    refine lv_aload_n hx hb dJ5_charAt_5068e_33 rfl (lv_at hl 1 rfl) ?_
    refine lv_iload_n hx hb dJ5_charAt_5068e_34 rfl (lv_at hl 4 rfl) ?_
    obtain ⟨n20, f21, hm22, hv23, h⟩ := h
    refine k_bald hx hb hK hR hm22 hv23 dJ5_charAt_5068e_35 ?_
    refine lv_sipush (v := (255 : Int32)) hx hb dJ5_charAt_5068e_36 (by decide) ?_
    refine lv_iand hx hb dJ5_charAt_5068e_39 ?_
    refine lv_i2c hx hb dJ5_charAt_5068e_40 rfl ?_
    obtain ⟨hn24, h⟩ := h
    exact k_reti hx hb hr hlocks hn24 hR hS h dJ5_charAt_5068e_41

def wp_J4_charAt_5068e (G : k_G) (post : Int32 → k_M → Prop) (p0 : Nat) (p1 : Int32) (M0 : k_M) : Prop :=
  (∃ fs4, M0 p0 = some (kO 0 fs4) ∧ wp_J5_charAt_5068e G (fun r1 M2 =>
  (narrow .char (.int r1) = .int r1 ∧ post r1 M2)) p0 p1 M0)
set_option maxHeartbeats 4000000 in
set_option maxRecDepth 100000 in
theorem c_J4_charAt_5068e (l : Launch) (G : k_G) (M0 : k_M) (sz : Nat) (post : Int32 → k_M → Prop) (p0 : Nat) (p1 : Int32) (h : wp_J4_charAt_5068e G post p0 p1 M0) : Met l yJ4_charAt_5068e wsJ4_charAt_5068e ({ frames := 3, cells := 0, slots := 0, locals := 67 }) (va_Pc [.ref p0, .int p1] (kPre G M0 sz)) (va_Qi post (kB G M0 sz) (kA M0 sz)) 0 0 (kA M0 sz) := by
  refine Met.ofW (cc := cJ4_charAt_5068e) (maxL := 2) (ret := (some .char)) (by decide) rfl ?_
  intro p e s m args below meth c s₁ B hml hv
  obtain ⟨rfl, hsz, hR, hE⟩ := hv
  have hx := B.exec
  have hb := B.bytes
  have hr := B.returns
  have hts := atoms_spec (ws := wsJ4_charAt_5068e) B.pre
  have hown : s.vm.findClass RJ4 = some m.cls := findClass_of_methodNamed B.named
  have hlocks := B.notSynchronized
  subst hsz
  have hK := hE.1
  have hA : ∀ q, s.heap.size ≤ q → kA M0 s.heap.size q := kA.new
  have hS : va_S (kA M0 s.heap.size) s.heap s.heap [] := va_S.rf
  have hl := lv_entry ([.ref p0, .int p1]) (n := 2) (Nat.le_of_ble_eq_true rfl)
  rw [lg_entry_eq]
  generalize (lg_sl ([.ref p0, .int p1]) ++ List.replicate (2 - (lg_sl ([.ref p0, .int p1])).length) Slot.unset).toArray = ls at hl ⊢
  have hl : lv_has ls 2 [(0, .ref p0), (1, .int p1)] := hl
  have hR0 := hR
  refine lv_aload_n hx hb dJ4_charAt_5068e_0 rfl (lv_at hl 0 rfl) ?_
  refine lv_iload_n hx hb dJ4_charAt_5068e_1 rfl (lv_at hl 1 rfl) ?_
  obtain ⟨fs4, hm3, h⟩ := h
  refine k_calli0 (va_runSU (As := [.int p1]) (rest := []) (hK.1 0 (RJ4, TJ4, 4) rfl).2 ⟨hx, hb, hml, hown, hts⟩ (c_J5_charAt_5068e l G _ _ _ p0 p1 h) (va_cwSU 1 hts gJ4_charAt_5068e_J5_charAt_5068e_s329 rfl rfl rfl (by decide +kernel) ⟨Nat.le_of_ble_eq_true rfl, Nat.le_of_ble_eq_true rfl⟩) (k_preV (q := (RJ4, TJ4, 4)) hm3 rfl hR hS hA hE) rfl rfl hl.1 rfl (lv_room (Nat.le_of_ble_eq_true rfl)) dJ4_charAt_5068e_2 ⟨Nat.zero_le _, Nat.zero_le _⟩) hR hS hA (fun r1 M2 H locs h hR hS => ?_)
  obtain ⟨hn5, h⟩ := h
  exact k_reti hx hb hr hlocks hn5 hR hS h dJ4_charAt_5068e_5
