def wp_J13_bitCount_95d88 (G : k_G) (post : Int32 → k_M → Prop) (p0 : Int64) (M0 : k_M) : Prop :=
  (∀ y1 : Int64, y1 = (p0 - (((p0).toUInt64 >>> (((1 : Int32)).toInt64.toUInt64 &&& Int64.toUInt64 63)).toInt64 &&& (6148914691236517205 : Int64))) →
  (∀ y2 : Int64, y2 = ((y1 &&& (3689348814741910323 : Int64)) + (((y1).toUInt64 >>> (((2 : Int32)).toInt64.toUInt64 &&& Int64.toUInt64 63)).toInt64 &&& (3689348814741910323 : Int64))) →
  (∀ y3 : Int64, y3 = ((y2 + ((y2).toUInt64 >>> (((4 : Int32)).toInt64.toUInt64 &&& Int64.toUInt64 63)).toInt64) &&& (1085102592571150095 : Int64)) →
  (∀ y4 : Int64, y4 = (y3 + ((y3).toUInt64 >>> (((8 : Int32)).toInt64.toUInt64 &&& Int64.toUInt64 63)).toInt64) →
  (∀ y5 : Int64, y5 = (y4 + ((y4).toUInt64 >>> (((16 : Int32)).toInt64.toUInt64 &&& Int64.toUInt64 63)).toInt64) →
  (∀ y6 : Int64, y6 = (y5 + ((y5).toUInt64 >>> (((32 : Int32)).toInt64.toUInt64 &&& Int64.toUInt64 63)).toInt64) →
  post ((y6).toInt32 &&& (127 : Int32)) M0))))))
set_option maxHeartbeats 4000000 in
set_option maxRecDepth 100000 in
theorem c_J13_bitCount_95d88 (l : Launch) (G : k_G) (M0 : k_M) (sz : Nat) (post : Int32 → k_M → Prop) (p0 : Int64) (h : wp_J13_bitCount_95d88 G post p0 M0) : Met l yJ13_bitCount_95d88 wsJ13_bitCount_95d88 ({ frames := 0, cells := 0, slots := 0, locals := 0 }) (va_Pc [.long p0] (kPre G M0 sz)) (va_Qi post (kB G M0 sz) (kA M0 sz)) 0 0 (kA M0 sz) := by
  refine Met.ofW (cc := cJ13_bitCount_95d88) (maxL := 2) (ret := (some .int)) (by decide) rfl ?_
  intro p e s m args below meth c s₁ B hml hv
  obtain ⟨rfl, hsz, hR, hE⟩ := hv
  have hx := B.exec
  have hb := B.bytes
  have hr := B.returns
  have hts := atoms_spec (ws := wsJ13_bitCount_95d88) B.pre
  have hown : s.vm.findClass RJ13 = some m.cls := findClass_of_methodNamed B.named
  have hlocks := B.notSynchronized
  subst hsz
  have hK := hE.1
  have hA : ∀ q, s.heap.size ≤ q → kA M0 s.heap.size q := kA.new
  have hS : va_S (kA M0 s.heap.size) s.heap s.heap [] := va_S.rf
  have hw1 := hts (.constantLong RJ13 314 (6148914691236517205)) (by decide +kernel)
  have hw2 := hts (.constantLong RJ13 316 (3689348814741910323)) (by decide +kernel)
  have hw3 := hts (.constantLong RJ13 318 (1085102592571150095)) (by decide +kernel)
  have hl := lv_entry ([.long p0]) (n := 2) (Nat.le_of_ble_eq_true rfl)
  rw [lg_entry_eq]
  generalize (lg_sl ([.long p0]) ++ List.replicate (2 - (lg_sl ([.long p0])).length) Slot.unset).toArray = ls at hl ⊢
  have hl : lv_has ls 2 [(0, .long p0)] := hl
  have hR0 := hR
  refine lv_lload_n hx hb dJ13_bitCount_95d88_0 rfl (lv_at hl 0 rfl) ?_
  refine lv_lload_n hx hb dJ13_bitCount_95d88_1 rfl (lv_at hl 0 rfl) ?_
  refine lv_iconst (v := (1 : Int32)) hx hb dJ13_bitCount_95d88_2 (by decide) ?_
  refine lv_lushr hx hb dJ13_bitCount_95d88_3 rfl ?_
  refine lv_ldc2 (v := (6148914691236517205 : Int64)) hx hb hown hw1 dJ13_bitCount_95d88_4 ?_
  refine lv_land hx hb dJ13_bitCount_95d88_7 ?_
  refine lv_lsub hx hb dJ13_bitCount_95d88_8 ?_
  refine lv_topl (fun y1 ey1 => ?_)
  replace h := h y1 ey1
  refine lv_lstore_n (lv' := [(0, .long y1)]) hx hb dJ13_bitCount_95d88_9 rfl hl (by decide) rfl (fun ls hl => ?_)
  refine lv_lload_n hx hb dJ13_bitCount_95d88_10 rfl (lv_at hl 0 rfl) ?_
  refine lv_ldc2 (v := (3689348814741910323 : Int64)) hx hb hown hw2 dJ13_bitCount_95d88_11 ?_
  refine lv_land hx hb dJ13_bitCount_95d88_14 ?_
  refine lv_lload_n hx hb dJ13_bitCount_95d88_15 rfl (lv_at hl 0 rfl) ?_
  refine lv_iconst (v := (2 : Int32)) hx hb dJ13_bitCount_95d88_16 (by decide) ?_
  refine lv_lushr hx hb dJ13_bitCount_95d88_17 rfl ?_
  refine lv_ldc2 (v := (3689348814741910323 : Int64)) hx hb hown hw2 dJ13_bitCount_95d88_18 ?_
  refine lv_land hx hb dJ13_bitCount_95d88_21 ?_
  refine lv_ladd hx hb dJ13_bitCount_95d88_22 ?_
  refine lv_topl (fun y2 ey2 => ?_)
  replace h := h y2 ey2
  refine lv_lstore_n (lv' := [(0, .long y2)]) hx hb dJ13_bitCount_95d88_23 rfl hl (by decide) rfl (fun ls hl => ?_)
  refine lv_lload_n hx hb dJ13_bitCount_95d88_24 rfl (lv_at hl 0 rfl) ?_
  refine lv_lload_n hx hb dJ13_bitCount_95d88_25 rfl (lv_at hl 0 rfl) ?_
  refine lv_iconst (v := (4 : Int32)) hx hb dJ13_bitCount_95d88_26 (by decide) ?_
  refine lv_lushr hx hb dJ13_bitCount_95d88_27 rfl ?_
  refine lv_ladd hx hb dJ13_bitCount_95d88_28 ?_
  refine lv_ldc2 (v := (1085102592571150095 : Int64)) hx hb hown hw3 dJ13_bitCount_95d88_29 ?_
  refine lv_land hx hb dJ13_bitCount_95d88_32 ?_
  refine lv_topl (fun y3 ey3 => ?_)
  replace h := h y3 ey3
  refine lv_lstore_n (lv' := [(0, .long y3)]) hx hb dJ13_bitCount_95d88_33 rfl hl (by decide) rfl (fun ls hl => ?_)
  refine lv_lload_n hx hb dJ13_bitCount_95d88_34 rfl (lv_at hl 0 rfl) ?_
  refine lv_lload_n hx hb dJ13_bitCount_95d88_35 rfl (lv_at hl 0 rfl) ?_
  refine lv_bipush (v := (8 : Int32)) hx hb dJ13_bitCount_95d88_36 (by decide) ?_
  refine lv_lushr hx hb dJ13_bitCount_95d88_38 rfl ?_
  refine lv_ladd hx hb dJ13_bitCount_95d88_39 ?_
  refine lv_topl (fun y4 ey4 => ?_)
  replace h := h y4 ey4
  refine lv_lstore_n (lv' := [(0, .long y4)]) hx hb dJ13_bitCount_95d88_40 rfl hl (by decide) rfl (fun ls hl => ?_)
  refine lv_lload_n hx hb dJ13_bitCount_95d88_41 rfl (lv_at hl 0 rfl) ?_
  refine lv_lload_n hx hb dJ13_bitCount_95d88_42 rfl (lv_at hl 0 rfl) ?_
  refine lv_bipush (v := (16 : Int32)) hx hb dJ13_bitCount_95d88_43 (by decide) ?_
  refine lv_lushr hx hb dJ13_bitCount_95d88_45 rfl ?_
  refine lv_ladd hx hb dJ13_bitCount_95d88_46 ?_
  refine lv_topl (fun y5 ey5 => ?_)
  replace h := h y5 ey5
  refine lv_lstore_n (lv' := [(0, .long y5)]) hx hb dJ13_bitCount_95d88_47 rfl hl (by decide) rfl (fun ls hl => ?_)
  refine lv_lload_n hx hb dJ13_bitCount_95d88_48 rfl (lv_at hl 0 rfl) ?_
  refine lv_lload_n hx hb dJ13_bitCount_95d88_49 rfl (lv_at hl 0 rfl) ?_
  refine lv_bipush (v := (32 : Int32)) hx hb dJ13_bitCount_95d88_50 (by decide) ?_
  refine lv_lushr hx hb dJ13_bitCount_95d88_52 rfl ?_
  refine lv_ladd hx hb dJ13_bitCount_95d88_53 ?_
  refine lv_topl (fun y6 ey6 => ?_)
  replace h := h y6 ey6
  refine lv_lstore_n (lv' := [(0, .long y6)]) hx hb dJ13_bitCount_95d88_54 rfl hl (by decide) rfl (fun ls hl => ?_)
  refine lv_lload_n hx hb dJ13_bitCount_95d88_55 rfl (lv_at hl 0 rfl) ?_
  refine lv_l2i hx hb dJ13_bitCount_95d88_56 rfl ?_
  refine lv_bipush (v := (127 : Int32)) hx hb dJ13_bitCount_95d88_57 (by decide) ?_
  refine lv_iand hx hb dJ13_bitCount_95d88_59 ?_
  exact k_reti hx hb hr hlocks rfl hR hS h dJ13_bitCount_95d88_60

def wp_J6_bitCount_0f7a4 (G : k_G) (post : Int32 → k_M → Prop) (p0 : Int32) (M0 : k_M) : Prop :=
  (∀ y1 : Int32, y1 = (p0 - (((p0).toUInt32 >>> (((1 : Int32)).toUInt32 &&& Int32.toUInt32 31)).toInt32 &&& (1431655765 : Int32))) →
  (∀ y2 : Int32, y2 = ((y1 &&& (858993459 : Int32)) + (((y1).toUInt32 >>> (((2 : Int32)).toUInt32 &&& Int32.toUInt32 31)).toInt32 &&& (858993459 : Int32))) →
  (∀ y3 : Int32, y3 = ((y2 + ((y2).toUInt32 >>> (((4 : Int32)).toUInt32 &&& Int32.toUInt32 31)).toInt32) &&& (252645135 : Int32)) →
  (∀ y4 : Int32, y4 = (y3 + ((y3).toUInt32 >>> (((8 : Int32)).toUInt32 &&& Int32.toUInt32 31)).toInt32) →
  (∀ y5 : Int32, y5 = (y4 + ((y4).toUInt32 >>> (((16 : Int32)).toUInt32 &&& Int32.toUInt32 31)).toInt32) →
  post (y5 &&& (63 : Int32)) M0)))))
set_option maxHeartbeats 4000000 in
set_option maxRecDepth 100000 in
theorem c_J6_bitCount_0f7a4 (l : Launch) (G : k_G) (M0 : k_M) (sz : Nat) (post : Int32 → k_M → Prop) (p0 : Int32) (h : wp_J6_bitCount_0f7a4 G post p0 M0) : Met l yJ6_bitCount_0f7a4 wsJ6_bitCount_0f7a4 ({ frames := 0, cells := 0, slots := 0, locals := 0 }) (va_Pc [.int p0] (kPre G M0 sz)) (va_Qi post (kB G M0 sz) (kA M0 sz)) 0 0 (kA M0 sz) := by
  refine Met.ofW (cc := cJ6_bitCount_0f7a4) (maxL := 1) (ret := (some .int)) (by decide) rfl ?_
  intro p e s m args below meth c s₁ B hml hv
  obtain ⟨rfl, hsz, hR, hE⟩ := hv
  have hx := B.exec
  have hb := B.bytes
  have hr := B.returns
  have hts := atoms_spec (ws := wsJ6_bitCount_0f7a4) B.pre
  have hown : s.vm.findClass RJ6 = some m.cls := findClass_of_methodNamed B.named
  have hlocks := B.notSynchronized
  subst hsz
  have hK := hE.1
  have hA : ∀ q, s.heap.size ≤ q → kA M0 s.heap.size q := kA.new
  have hS : va_S (kA M0 s.heap.size) s.heap s.heap [] := va_S.rf
  have hw1 := hts (.constant RJ6 265 (1431655765)) (by decide +kernel)
  have hw2 := hts (.constant RJ6 266 (858993459)) (by decide +kernel)
  have hw3 := hts (.constant RJ6 267 (252645135)) (by decide +kernel)
  have hl := lv_entry ([.int p0]) (n := 1) (Nat.le_of_ble_eq_true rfl)
  rw [lg_entry_eq]
  generalize (lg_sl ([.int p0]) ++ List.replicate (1 - (lg_sl ([.int p0])).length) Slot.unset).toArray = ls at hl ⊢
  have hl : lv_has ls 1 [(0, .int p0)] := hl
  have hR0 := hR
  refine lv_iload_n hx hb dJ6_bitCount_0f7a4_0 rfl (lv_at hl 0 rfl) ?_
  refine lv_iload_n hx hb dJ6_bitCount_0f7a4_1 rfl (lv_at hl 0 rfl) ?_
  refine lv_iconst (v := (1 : Int32)) hx hb dJ6_bitCount_0f7a4_2 (by decide) ?_
  refine lv_iushr hx hb dJ6_bitCount_0f7a4_3 rfl ?_
  refine lv_ldcw (v := (1431655765 : Int32)) hx hb hown hw1 dJ6_bitCount_0f7a4_4 ?_
  refine lv_iand hx hb dJ6_bitCount_0f7a4_7 ?_
  refine lv_isub hx hb dJ6_bitCount_0f7a4_8 ?_
  refine lv_topi (fun y1 ey1 => ?_)
  replace h := h y1 ey1
  refine lv_istore_n (lv' := [(0, .int y1)]) hx hb dJ6_bitCount_0f7a4_9 rfl hl (by decide) rfl (fun ls hl => ?_)
  refine lv_iload_n hx hb dJ6_bitCount_0f7a4_10 rfl (lv_at hl 0 rfl) ?_
  refine lv_ldcw (v := (858993459 : Int32)) hx hb hown hw2 dJ6_bitCount_0f7a4_11 ?_
  refine lv_iand hx hb dJ6_bitCount_0f7a4_14 ?_
  refine lv_iload_n hx hb dJ6_bitCount_0f7a4_15 rfl (lv_at hl 0 rfl) ?_
  refine lv_iconst (v := (2 : Int32)) hx hb dJ6_bitCount_0f7a4_16 (by decide) ?_
  refine lv_iushr hx hb dJ6_bitCount_0f7a4_17 rfl ?_
  refine lv_ldcw (v := (858993459 : Int32)) hx hb hown hw2 dJ6_bitCount_0f7a4_18 ?_
  refine lv_iand hx hb dJ6_bitCount_0f7a4_21 ?_
  refine lv_iadd hx hb dJ6_bitCount_0f7a4_22 ?_
  refine lv_topi (fun y2 ey2 => ?_)
  replace h := h y2 ey2
  refine lv_istore_n (lv' := [(0, .int y2)]) hx hb dJ6_bitCount_0f7a4_23 rfl hl (by decide) rfl (fun ls hl => ?_)
  refine lv_iload_n hx hb dJ6_bitCount_0f7a4_24 rfl (lv_at hl 0 rfl) ?_
  refine lv_iload_n hx hb dJ6_bitCount_0f7a4_25 rfl (lv_at hl 0 rfl) ?_
  refine lv_iconst (v := (4 : Int32)) hx hb dJ6_bitCount_0f7a4_26 (by decide) ?_
  refine lv_iushr hx hb dJ6_bitCount_0f7a4_27 rfl ?_
  refine lv_iadd hx hb dJ6_bitCount_0f7a4_28 ?_
  refine lv_ldcw (v := (252645135 : Int32)) hx hb hown hw3 dJ6_bitCount_0f7a4_29 ?_
  refine lv_iand hx hb dJ6_bitCount_0f7a4_32 ?_
  refine lv_topi (fun y3 ey3 => ?_)
  replace h := h y3 ey3
  refine lv_istore_n (lv' := [(0, .int y3)]) hx hb dJ6_bitCount_0f7a4_33 rfl hl (by decide) rfl (fun ls hl => ?_)
  refine lv_iload_n hx hb dJ6_bitCount_0f7a4_34 rfl (lv_at hl 0 rfl) ?_
  refine lv_iload_n hx hb dJ6_bitCount_0f7a4_35 rfl (lv_at hl 0 rfl) ?_
  refine lv_bipush (v := (8 : Int32)) hx hb dJ6_bitCount_0f7a4_36 (by decide) ?_
  refine lv_iushr hx hb dJ6_bitCount_0f7a4_38 rfl ?_
  refine lv_iadd hx hb dJ6_bitCount_0f7a4_39 ?_
  refine lv_topi (fun y4 ey4 => ?_)
  replace h := h y4 ey4
  refine lv_istore_n (lv' := [(0, .int y4)]) hx hb dJ6_bitCount_0f7a4_40 rfl hl (by decide) rfl (fun ls hl => ?_)
  refine lv_iload_n hx hb dJ6_bitCount_0f7a4_41 rfl (lv_at hl 0 rfl) ?_
  refine lv_iload_n hx hb dJ6_bitCount_0f7a4_42 rfl (lv_at hl 0 rfl) ?_
  refine lv_bipush (v := (16 : Int32)) hx hb dJ6_bitCount_0f7a4_43 (by decide) ?_
  refine lv_iushr hx hb dJ6_bitCount_0f7a4_45 rfl ?_
  refine lv_iadd hx hb dJ6_bitCount_0f7a4_46 ?_
  refine lv_topi (fun y5 ey5 => ?_)
  replace h := h y5 ey5
  refine lv_istore_n (lv' := [(0, .int y5)]) hx hb dJ6_bitCount_0f7a4_47 rfl hl (by decide) rfl (fun ls hl => ?_)
  refine lv_iload_n hx hb dJ6_bitCount_0f7a4_48 rfl (lv_at hl 0 rfl) ?_
  refine lv_bipush (v := (63 : Int32)) hx hb dJ6_bitCount_0f7a4_49 (by decide) ?_
  refine lv_iand hx hb dJ6_bitCount_0f7a4_51 ?_
  exact k_reti hx hb hr hlocks rfl hR hS h dJ6_bitCount_0f7a4_52

def wp_X1_init (G : k_G) (mc ms : Nat) (post : k_M → Prop) (p0 : Nat) (M0 : k_M) : Prop :=
  (∃ N1 : Nat, ¬ (16 : Int32) < 0 ∧ ((16 : Int32)).toNatClampNeg = N1 ∧ N1 * 4 ≤ 536870912 ∧ 0 + 1 ≤ mc ∧ 0 + N1 ≤ ms ∧ ∀ (q2 : Nat) (M3 : k_M), M0 q2 = none → M3 = va_up M0 q2 (some (kI G N1 (fun _ => 0))) →
  (∃ fs9, M3 p0 = some (kO 2 fs9) ∧ 0 < fs9.length ∧ ∀ M10 : k_M, M10 = va_up M3 p0 (some (kO 2 (fs9.set 0 (.ref q2)))) →
  (0 + 1) ≤ mc ∧ (0 + N1) ≤ ms ∧ post M10))
theorem in_X1_init_X1 : ∀ w ∈ wsX10, w ∈ wsX1_init := by decide +kernel
set_option maxHeartbeats 4000000 in
set_option maxRecDepth 100000 in
theorem c_X1_init (l : Launch) (G : k_G) (mc ms : Nat) (M0 : k_M) (sz : Nat) (post : k_M → Prop) (p0 : Nat) (h : wp_X1_init G mc ms post p0 M0) : Met l yX1_init wsX1_init ({ frames := 1, cells := mc, slots := ms, locals := 12 }) (va_Pc [.ref p0] (kPre G M0 sz)) (va_Qv post (kB G M0 sz) (kA M0 sz)) mc ms (kA M0 sz) := by
  refine Met.ofW (cc := cX1_init) (maxL := 1) (ret := none) (by decide) rfl ?_
  intro p e s m args below meth c s₁ B hml hv
  obtain ⟨rfl, hsz, hR, hE⟩ := hv
  have hx := B.exec
  have hb := B.bytes
  have hr := B.returns
  have hts := atoms_spec (ws := wsX1_init) B.pre
  have hown : s.vm.findClass RX1 = some m.cls := findClass_of_methodNamed B.named
  have hlocks := B.notSynchronized
  have hin0 : meth.name = "<init>" := (name_of_methodNamed B.named B.method).1
  subst hsz
  have hK := hE.1
  have hA : ∀ q, s.heap.size ≤ q → kA M0 s.heap.size q := kA.new
  have hS : va_S (kA M0 s.heap.size) s.heap s.heap [] := va_S.rf
  have hw1 := hts (.methodLink RX1 3 objectInit) (by decide +kernel)
  have hw2 := hts (.instanceMethod objectInit) (by decide +kernel)
  have hw3 := hts (.code objectInit ⟨#[0xb1]⟩ 1 none) (by decide +kernel)
  have hw4 := hts (.arrayClass .int) (by decide +kernel)
  have hw5 := hts (.fieldLink RX1 9 "ForkedStamps$Stamp" "heights" "[I") (by decide +kernel)
  have hl := lv_entry ([.ref p0]) (n := 1) (Nat.le_of_ble_eq_true rfl)
  rw [lg_entry_eq]
  generalize (lg_sl ([.ref p0]) ++ List.replicate (1 - (lg_sl ([.ref p0])).length) Slot.unset).toArray = ls at hl ⊢
  have hl : lv_has ls 1 [(0, .ref p0)] := hl
  have hR0 := hR
  refine lv_aload_n hx hb dX1_init_0 rfl (lv_at hl 0 rfl) ?_
  refine W.objInit hx hb hown hw1 hw2 hw3 rfl (by rw [hml]; exact hl.1) rfl dX1_init_1 (Nat.le_of_ble_eq_true rfl) (Nat.le_of_ble_eq_true rfl) ?_
  refine W.eq (g2 := F0 m 4 ls []) rfl ?_
  refine lv_aload_n hx hb dX1_init_4 rfl (lv_at hl 0 rfl) ?_
  refine lv_bipush (v := (16 : Int32)) hx hb dX1_init_5 (by decide) ?_
  obtain ⟨N1, hn4, hn5, hn6, hn7, hn8, h⟩ := h
  refine k_newa (atype := .int) (ty := .int) (a0 := (N1, .inl (fun _ => 0))) hx hb hw4 rfl 0 rfl hK hR hS hA (fun _ => rfl) hn4 hn5 hn6 hn7 hn8 dX1_init_7 (fun q2 H hq hR hS => ?_)
  replace h := h q2 _ hq rfl
  obtain ⟨fs9, hm11, hk12, h⟩ := h
  replace h := h _ rfl
  refine k_putF (ci := 2) (v := .ref q2) (ty := .array .int) (C := RX1) (T := TX1) (N := 3) hx hb hts in_X1_init_X1 tyX1 tyX1_ok nmX1 hown hK hR hS hm11 rfl 0 (by decide) hw5 (fun _ h9 => h9) rfl hin0 rfl (by decide +kernel) rfl rfl hk12 dX1_init_9 (fun H locs hR hS => ?_)
  obtain ⟨hwc, hws, h⟩ := h
  refine W.widen (k := mc) (n := ms) hwc hws ?_
  exact k_retv hx hb hr hlocks hR hS h dX1_init_12

def wp_X1_become (G : k_G) (post : k_M → Prop) (p0 : Nat) (p1 : Nat) (M0 : k_M) : Prop :=
  (∃ fs1 v2, M0 p1 = some (kO 2 fs1) ∧ fs1[0]? = some (.ref v2) ∧
  (∃ fs5 v6, M0 p0 = some (kO 2 fs5) ∧ fs5[0]? = some (.ref v6) ∧
  (∃ n9 f11 n10 f12, M0 v2 = some (kI G n9 f11) ∧ M0 v6 = some (kI G n10 f12) ∧ ¬ (0 : Int32) < 0 ∧ ¬ (0 : Int32) < 0 ∧ ¬ (16 : Int32) < 0 ∧ ((0 : Int32)).toNatClampNeg + ((16 : Int32)).toNatClampNeg ≤ n9 ∧ ((0 : Int32)).toNatClampNeg + ((16 : Int32)).toNatClampNeg ≤ n10 ∧ ∀ M13 : k_M, M13 = va_up M0 v6 (some (kI G n10 (va_cpy f11 f12 ((0 : Int32)).toNatClampNeg ((0 : Int32)).toNatClampNeg ((16 : Int32)).toNatClampNeg))) →
  (∃ fs21 v22, M13 p1 = some (kO 2 fs21) ∧ fs21[1]? = some (.long v22) ∧
  (∃ fs25, M13 p0 = some (kO 2 fs25) ∧ 1 < fs25.length ∧ ∀ M26 : k_M, M26 = va_up M13 p0 (some (kO 2 (fs25.set 1 (.long v22)))) →
  (∃ fs29 v30, M26 p1 = some (kO 2 fs29) ∧ fs29[2]? = some (.long v30) ∧
  (∃ fs33, M26 p0 = some (kO 2 fs33) ∧ 2 < fs33.length ∧ ∀ M34 : k_M, M34 = va_up M26 p0 (some (kO 2 (fs33.set 2 (.long v30)))) →
  post M34)))))))
theorem in_X1_become_X1 : ∀ w ∈ wsX10, w ∈ wsX1_become := by decide +kernel
set_option maxHeartbeats 4000000 in
set_option maxRecDepth 100000 in
theorem c_X1_become (l : Launch) (G : k_G) (M0 : k_M) (sz : Nat) (post : k_M → Prop) (p0 : Nat) (p1 : Nat) (h : wp_X1_become G post p0 p1 M0) : Met l yX1_become wsX1_become ({ frames := 1, cells := 0, slots := 0, locals := 40 }) (va_Pc [.ref p0, .ref p1] (kPre G M0 sz)) (va_Qv post (kB G M0 sz) (kA M0 sz)) 0 0 (kA M0 sz) := by
  refine Met.ofW (cc := cX1_become) (maxL := 2) (ret := none) (by decide) rfl ?_
  intro p e s m args below meth c s₁ B hml hv
  obtain ⟨rfl, hsz, hR, hE⟩ := hv
  have hx := B.exec
  have hb := B.bytes
  have hr := B.returns
  have hts := atoms_spec (ws := wsX1_become) B.pre
  have hown : s.vm.findClass RX1 = some m.cls := findClass_of_methodNamed B.named
  have hlocks := B.notSynchronized
  subst hsz
  have hK := hE.1
  have hA : ∀ q, s.heap.size ≤ q → kA M0 s.heap.size q := kA.new
  have hS : va_S (kA M0 s.heap.size) s.heap s.heap [] := va_S.rf
  have hw1 := hts (.fieldLink RX1 9 "ForkedStamps$Stamp" "heights" "[I") (by decide +kernel)
  have hw2 := hts (.methodLink RX1 15 arraycopyName) (by decide +kernel)
  have hw3 := hts (.native arraycopyName) (by decide +kernel)
  have hw4 := hts (.static arraycopyName) (by decide +kernel)
  have hw5 := hts (.initialized "java/lang/System") (by decide +kernel)
  have hw6 := hts (.fieldLink RX1 21 "ForkedStamps$Stamp" "knownEarly" "J") (by decide +kernel)
  have hw7 := hts (.fieldLink RX1 25 "ForkedStamps$Stamp" "knownLate" "J") (by decide +kernel)
  have hl := lv_entry ([.ref p0, .ref p1]) (n := 2) (Nat.le_of_ble_eq_true rfl)
  rw [lg_entry_eq]
  generalize (lg_sl ([.ref p0, .ref p1]) ++ List.replicate (2 - (lg_sl ([.ref p0, .ref p1])).length) Slot.unset).toArray = ls at hl ⊢
  have hl : lv_has ls 2 [(0, .ref p0), (1, .ref p1)] := hl
  have hR0 := hR
  refine lv_aload_n hx hb dX1_become_0 rfl (lv_at hl 1 rfl) ?_
  obtain ⟨fs1, v2, hm3, hv4, h⟩ := h
  refine k_get (ci := 2) (C := RX1) (T := TX1) (N := 3) hx hb hts in_X1_become_X1 hown hK hR hm3 rfl 0 (by decide) hw1 (fun _ h9 => h9) hv4 dX1_become_1 ?_
  refine lv_iconst (v := (0 : Int32)) hx hb dX1_become_4 (by decide) ?_
  refine lv_aload_n hx hb dX1_become_5 rfl (lv_at hl 0 rfl) ?_
  obtain ⟨fs5, v6, hm7, hv8, h⟩ := h
  refine k_get (ci := 2) (C := RX1) (T := TX1) (N := 3) hx hb hts in_X1_become_X1 hown hK hR hm7 rfl 0 (by decide) hw1 (fun _ h9 => h9) hv8 dX1_become_6 ?_
  refine lv_iconst (v := (0 : Int32)) hx hb dX1_become_9 (by decide) ?_
  refine lv_bipush (v := (16 : Int32)) hx hb dX1_become_10 (by decide) ?_
  obtain ⟨n9, f11, n10, f12, hc14, hc15, hc16, hc17, hc18, hc19, hc20, h⟩ := h
  replace h := h _ rfl
  refine k_copyi hx hb (by rw [hml]; exact hl.1.symm) hown hw2 hw3 hw4 hw5 hK hR hS hc14 hc15 hc16 hc17 hc18 hc19 hc20 (Nat.le_of_ble_eq_true rfl) (Nat.le_of_ble_eq_true rfl) dX1_become_12 (fun H locs hR hS => ?_)
  refine lv_aload_n hx hb dX1_become_15 rfl (lv_at hl 0 rfl) ?_
  refine lv_aload_n hx hb dX1_become_16 rfl (lv_at hl 1 rfl) ?_
  obtain ⟨fs21, v22, hm23, hv24, h⟩ := h
  refine k_get (ci := 2) (C := RX1) (T := TX1) (N := 3) hx hb hts in_X1_become_X1 hown hK hR hm23 rfl 1 (by decide) hw6 (fun _ h9 => h9) hv24 dX1_become_17 ?_
  obtain ⟨fs25, hm27, hk28, h⟩ := h
  replace h := h _ rfl
  refine k_put (ci := 2) (v := .long v22) (ty := .long) (C := RX1) (T := TX1) (N := 3) hx hb hts in_X1_become_X1 tyX1 tyX1_ok nmX1 hown hK hR hS hm27 rfl 1 (by decide) hw6 (fun _ h9 => h9) rfl (by decide +kernel) rfl rfl hk28 dX1_become_20 (fun H locs hR hS => ?_)
  refine lv_aload_n hx hb dX1_become_23 rfl (lv_at hl 0 rfl) ?_
  refine lv_aload_n hx hb dX1_become_24 rfl (lv_at hl 1 rfl) ?_
  obtain ⟨fs29, v30, hm31, hv32, h⟩ := h
  refine k_get (ci := 2) (C := RX1) (T := TX1) (N := 3) hx hb hts in_X1_become_X1 hown hK hR hm31 rfl 2 (by decide) hw7 (fun _ h9 => h9) hv32 dX1_become_25 ?_
  obtain ⟨fs33, hm35, hk36, h⟩ := h
  replace h := h _ rfl
  refine k_put (ci := 2) (v := .long v30) (ty := .long) (C := RX1) (T := TX1) (N := 3) hx hb hts in_X1_become_X1 tyX1 tyX1_ok nmX1 hown hK hR hS hm35 rfl 2 (by decide) hw7 (fun _ h9 => h9) rfl (by decide +kernel) rfl rfl hk36 dX1_become_28 (fun H locs hR hS => ?_)
  exact k_retv hx hb hr hlocks hR hS h dX1_become_31

def wp_X1_takeOver_L2 (G : k_G) (post : k_M → Prop) : Nat → Nat → Nat → Int32 → k_M → Prop
  | 0 => fun _ _ _ _ => False
  | n + 1 => fun x0 x1 x2 M =>
  (((16 : Int32) ≤ x2 →
      (∃ fs2 v3, M x0 = some (kO 2 fs2) ∧ fs2[1]? = some (.long v3) ∧
        (∃ fs6 v7, M x1 = some (kO 2 fs6) ∧ fs6[1]? = some (.long v7) ∧
        (∃ fs10, M x0 = some (kO 2 fs10) ∧ 1 < fs10.length ∧ ∀ M11 : k_M, M11 = va_up M x0 (some (kO 2 (fs10.set 1 (.long (v3 ||| v7))))) →
        (∃ fs14 v15, M11 x0 = some (kO 2 fs14) ∧ fs14[2]? = some (.long v15) ∧
        (∃ fs18 v19, M11 x1 = some (kO 2 fs18) ∧ fs18[2]? = some (.long v19) ∧
        (∃ fs22, M11 x0 = some (kO 2 fs22) ∧ 2 < fs22.length ∧ ∀ M23 : k_M, M23 = va_up M11 x0 (some (kO 2 (fs22.set 2 (.long (v15 ||| v19))))) →
        post M23))))))) ∧
      (¬ (16 : Int32) ≤ x2 →
      (∃ fs26 v27, M x0 = some (kO 2 fs26) ∧ fs26[0]? = some (.ref v27) ∧
        (∃ fs30 v31, M x0 = some (kO 2 fs30) ∧ fs30[0]? = some (.ref v31) ∧
        (∃ n34 f35, M v31 = some (kI G n34 f35) ∧ vp_in x2 n34 ∧
        (∃ fs38 v39, M x1 = some (kO 2 fs38) ∧ fs38[0]? = some (.ref v39) ∧
        (∃ n42 f43, M v39 = some (kI G n42 f43) ∧ vp_in x2 n42 ∧
        (∃ n46 f47, M v27 = some (kI G n46 f47) ∧ vp_in x2 n46 ∧ ∀ M48 : k_M, M48 = va_up M v27 (some (kI G n46 (upd f47 (x2).toNatClampNeg (if (f35 (x2).toNatClampNeg) < (f43 (x2).toNatClampNeg) then (f43 (x2).toNatClampNeg) else (f35 (x2).toNatClampNeg))))) →
        (wp_X1_takeOver_L2 G post n) x0 x1 (x2 + (1 : Int32)) M48))))))))
def wp_X1_takeOver (G : k_G) (post : k_M → Prop) (p0 : Nat) (p1 : Nat) (M0 : k_M) : Prop :=
  ∃ k1, wp_X1_takeOver_L2 G post k1 p0 p1 (0 : Int32) M0
theorem in_X1_takeOver_X1 : ∀ w ∈ wsX10, w ∈ wsX1_takeOver := by decide +kernel
set_option maxHeartbeats 4000000 in
set_option maxRecDepth 100000 in
theorem c_X1_takeOver (l : Launch) (G : k_G) (M0 : k_M) (sz : Nat) (post : k_M → Prop) (p0 : Nat) (p1 : Nat) (h : wp_X1_takeOver G post p0 p1 M0) : Met l yX1_takeOver wsX1_takeOver ({ frames := 1, cells := 0, slots := 0, locals := 17 }) (va_Pc [.ref p0, .ref p1] (kPre G M0 sz)) (va_Qv post (kB G M0 sz) (kA M0 sz)) 0 0 (kA M0 sz) := by
  refine Met.ofW (cc := cX1_takeOver) (maxL := 3) (ret := none) (by decide) rfl ?_
  intro p e s m args below meth c s₁ B hml hv
  obtain ⟨rfl, hsz, hR, hE⟩ := hv
  have hx := B.exec
  have hb := B.bytes
  have hr := B.returns
  have hts := atoms_spec (ws := wsX1_takeOver) B.pre
  have hown : s.vm.findClass RX1 = some m.cls := findClass_of_methodNamed B.named
  have hlocks := B.notSynchronized
  subst hsz
  have hK := hE.1
  have hA : ∀ q, s.heap.size ≤ q → kA M0 s.heap.size q := kA.new
  have hS : va_S (kA M0 s.heap.size) s.heap s.heap [] := va_S.rf
  have hw1 := hts (.fieldLink RX1 21 "ForkedStamps$Stamp" "knownEarly" "J") (by decide +kernel)
  have hw2 := hts (.fieldLink RX1 25 "ForkedStamps$Stamp" "knownLate" "J") (by decide +kernel)
  have hw3 := hts (.fieldLink RX1 9 "ForkedStamps$Stamp" "heights" "[I") (by decide +kernel)
  have hw4 := hts (.methodLink RX1 28 Lib.Math.max.name) (by decide +kernel)
  have hw5 := hts (.static Lib.Math.max.name) (by decide +kernel)
  have hw6 := hts (.initialized "java/lang/Math") (by decide +kernel)
  have hw7 := hts (.code Lib.Math.max.name Lib.Math.max.code 2 (some .int)) (by decide +kernel)
  have L2 : ∀ (n : Nat), ∀ (x0 : Nat) (x1 : Nat) (x2 : Int32) (M : k_M) (H : Heap) (locs : List Loc) (ls : Array Slot), wp_X1_takeOver_L2 G post n x0 x1 x2 M → lv_has ls 3 [(0, .ref x0), (1, .ref x1), (2, .int x2)] → kR G M (kA M0 s.heap.size) H → va_S (kA M0 s.heap.size) s.heap H locs → W p l e (headSpec wsX1_takeOver ({ frames := 1, cells := 0, slots := 0, locals := 17 })).room s m ([.ref p0, .ref p1] : List Value).toArray below meth c H locs 0 0 (MQ below (va_Qv post (kB G M0 s.heap.size) (kA M0 s.heap.size)) ([.ref p0, .ref p1] : List Value).toArray s 0 0 (kA M0 s.heap.size)) (F0 m 2 ls []) := by
    intro n
    induction n with
    | zero =>
      intro  x0 x1 x2 M H locs ls h
      exact False.elim h
    | succ n ih =>
      intro  x0 x1 x2 M H locs ls h hl hR hS
      refine lv_iload_n hx hb dX1_takeOver_2 rfl (lv_at hl 2 rfl) ?_
      refine lv_bipush (v := (16 : Int32)) hx hb dX1_takeOver_3 (by decide) ?_
      obtain ⟨ha, hb2⟩ := h
      refine lv_icmp_ge (tgt := 35) hx hb dX1_takeOver_5 (by decide) (fun hc => ?_) (fun hc => ?_)
      · replace h := ha hc
        refine lv_aload_n hx hb dX1_takeOver_35 rfl (lv_at hl 0 rfl) ?_
        refine lv_dup hx hb dX1_takeOver_36 rfl ?_
        obtain ⟨fs2, v3, hm4, hv5, h⟩ := h
        refine k_get (ci := 2) (C := RX1) (T := TX1) (N := 3) hx hb hts in_X1_takeOver_X1 hown hK hR hm4 rfl 1 (by decide) hw1 (fun _ h9 => h9) hv5 dX1_takeOver_37 ?_
        refine lv_aload_n hx hb dX1_takeOver_40 rfl (lv_at hl 1 rfl) ?_
        obtain ⟨fs6, v7, hm8, hv9, h⟩ := h
        refine k_get (ci := 2) (C := RX1) (T := TX1) (N := 3) hx hb hts in_X1_takeOver_X1 hown hK hR hm8 rfl 1 (by decide) hw1 (fun _ h9 => h9) hv9 dX1_takeOver_41 ?_
        refine lv_lor hx hb dX1_takeOver_44 ?_
        obtain ⟨fs10, hm12, hk13, h⟩ := h
        replace h := h _ rfl
        refine k_put (ci := 2) (v := .long (v3 ||| v7)) (ty := .long) (C := RX1) (T := TX1) (N := 3) hx hb hts in_X1_takeOver_X1 tyX1 tyX1_ok nmX1 hown hK hR hS hm12 rfl 1 (by decide) hw1 (fun _ h9 => h9) rfl (by decide +kernel) rfl rfl hk13 dX1_takeOver_45 (fun H locs hR hS => ?_)
        refine lv_aload_n hx hb dX1_takeOver_48 rfl (lv_at hl 0 rfl) ?_
        refine lv_dup hx hb dX1_takeOver_49 rfl ?_
        obtain ⟨fs14, v15, hm16, hv17, h⟩ := h
        refine k_get (ci := 2) (C := RX1) (T := TX1) (N := 3) hx hb hts in_X1_takeOver_X1 hown hK hR hm16 rfl 2 (by decide) hw2 (fun _ h9 => h9) hv17 dX1_takeOver_50 ?_
        refine lv_aload_n hx hb dX1_takeOver_53 rfl (lv_at hl 1 rfl) ?_
        obtain ⟨fs18, v19, hm20, hv21, h⟩ := h
        refine k_get (ci := 2) (C := RX1) (T := TX1) (N := 3) hx hb hts in_X1_takeOver_X1 hown hK hR hm20 rfl 2 (by decide) hw2 (fun _ h9 => h9) hv21 dX1_takeOver_54 ?_
        refine lv_lor hx hb dX1_takeOver_57 ?_
        obtain ⟨fs22, hm24, hk25, h⟩ := h
        replace h := h _ rfl
        refine k_put (ci := 2) (v := .long (v15 ||| v19)) (ty := .long) (C := RX1) (T := TX1) (N := 3) hx hb hts in_X1_takeOver_X1 tyX1 tyX1_ok nmX1 hown hK hR hS hm24 rfl 2 (by decide) hw2 (fun _ h9 => h9) rfl (by decide +kernel) rfl rfl hk25 dX1_takeOver_58 (fun H locs hR hS => ?_)
        exact k_retv hx hb hr hlocks hR hS h dX1_takeOver_61
      · replace h := hb2 hc
        refine lv_aload_n hx hb dX1_takeOver_8 rfl (lv_at hl 0 rfl) ?_
        obtain ⟨fs26, v27, hm28, hv29, h⟩ := h
        refine k_get (ci := 2) (C := RX1) (T := TX1) (N := 3) hx hb hts in_X1_takeOver_X1 hown hK hR hm28 rfl 0 (by decide) hw3 (fun _ h9 => h9) hv29 dX1_takeOver_9 ?_
        refine lv_iload_n hx hb dX1_takeOver_12 rfl (lv_at hl 2 rfl) ?_
        refine lv_aload_n hx hb dX1_takeOver_13 rfl (lv_at hl 0 rfl) ?_
        obtain ⟨fs30, v31, hm32, hv33, h⟩ := h
        refine k_get (ci := 2) (C := RX1) (T := TX1) (N := 3) hx hb hts in_X1_takeOver_X1 hown hK hR hm32 rfl 0 (by decide) hw3 (fun _ h9 => h9) hv33 dX1_takeOver_14 ?_
        refine lv_iload_n hx hb dX1_takeOver_17 rfl (lv_at hl 2 rfl) ?_
        obtain ⟨n34, f35, hm36, hv37, h⟩ := h
        refine k_iald hx hb hK hR hm36 hv37 dX1_takeOver_18 ?_
        refine lv_aload_n hx hb dX1_takeOver_19 rfl (lv_at hl 1 rfl) ?_
        obtain ⟨fs38, v39, hm40, hv41, h⟩ := h
        refine k_get (ci := 2) (C := RX1) (T := TX1) (N := 3) hx hb hts in_X1_takeOver_X1 hown hK hR hm40 rfl 0 (by decide) hw3 (fun _ h9 => h9) hv41 dX1_takeOver_20 ?_
        refine lv_iload_n hx hb dX1_takeOver_23 rfl (lv_at hl 2 rfl) ?_
        obtain ⟨n42, f43, hm44, hv45, h⟩ := h
        refine k_iald hx hb hK hR hm44 hv45 dX1_takeOver_24 ?_
        refine va_mmax hx hb (by rw [hml]; exact hl.1.symm) hown hw4 hw5 hw6 hw7 (Nat.le_of_ble_eq_true rfl) (Nat.le_of_ble_eq_true rfl) (Nat.le_of_ble_eq_true rfl) (Nat.le_of_ble_eq_true rfl) dX1_takeOver_25 ?_
        obtain ⟨n46, f47, hm49, hv50, h⟩ := h
        replace h := h _ rfl
        refine k_iast hx hb hK hR hS hm49 hv50 dX1_takeOver_28 (fun H locs hR hS => ?_)
        refine lv_iinc (v := (x2 + (1 : Int32))) (lv' := [(2, .int (x2 + (1 : Int32))), (0, .ref x0), (1, .ref x1)]) hx hb dX1_takeOver_29 hl (k := 2) rfl rfl (by decide) rfl (fun ls hl => ?_)
        refine lv_goto (tgt := 2) hx hb dX1_takeOver_32 (by decide) ?_
        exact ih _ _ _ _ _ _ _ h (lv_sub hl [1, 2, 0] rfl) hR hS
  have hl := lv_entry ([.ref p0, .ref p1]) (n := 3) (Nat.le_of_ble_eq_true rfl)
  rw [lg_entry_eq]
  generalize (lg_sl ([.ref p0, .ref p1]) ++ List.replicate (3 - (lg_sl ([.ref p0, .ref p1])).length) Slot.unset).toArray = ls at hl ⊢
  have hl : lv_has ls 3 [(0, .ref p0), (1, .ref p1)] := hl
  have hR0 := hR
  refine lv_iconst (v := (0 : Int32)) hx hb dX1_takeOver_0 (by decide) ?_
  refine lv_istore_n (lv' := [(2, .int (0 : Int32)), (0, .ref p0), (1, .ref p1)]) hx hb dX1_takeOver_1 rfl hl (by decide) rfl (fun ls hl => ?_)
  obtain ⟨k1, h⟩ := h
  exact L2 k1 _ _ _ _ _ _ _ h (lv_sub hl [1, 2, 0] rfl) hR hS

def wp_X1_isIn (G : k_G) (post : Int32 → k_M → Prop) (p0 : Int32) (p1 : Int32) (M0 : k_M) : Prop :=
  ((¬ ((p0 >>> (p1 &&& 31)) &&& (1 : Int32)) = (1 : Int32) →
  post (0 : Int32) M0) ∧
  (((p0 >>> (p1 &&& 31)) &&& (1 : Int32)) = (1 : Int32) →
  post (1 : Int32) M0))
set_option maxHeartbeats 4000000 in
set_option maxRecDepth 100000 in
theorem c_X1_isIn (l : Launch) (G : k_G) (M0 : k_M) (sz : Nat) (post : Int32 → k_M → Prop) (p0 : Int32) (p1 : Int32) (h : wp_X1_isIn G post p0 p1 M0) : Met l yX1_isIn wsX1_isIn ({ frames := 0, cells := 0, slots := 0, locals := 0 }) (va_Pc [.int p0, .int p1] (kPre G M0 sz)) (va_Qi post (kB G M0 sz) (kA M0 sz)) 0 0 (kA M0 sz) := by
  refine Met.ofW (cc := cX1_isIn) (maxL := 2) (ret := (some .boolean)) (by decide) rfl ?_
  intro p e s m args below meth c s₁ B hml hv
  obtain ⟨rfl, hsz, hR, hE⟩ := hv
  have hx := B.exec
  have hb := B.bytes
  have hr := B.returns
  have hts := atoms_spec (ws := wsX1_isIn) B.pre
  have hown : s.vm.findClass RX1 = some m.cls := findClass_of_methodNamed B.named
  have hlocks := B.notSynchronized
  subst hsz
  have hK := hE.1
  have hA : ∀ q, s.heap.size ≤ q → kA M0 s.heap.size q := kA.new
  have hS : va_S (kA M0 s.heap.size) s.heap s.heap [] := va_S.rf
  have hl := lv_entry ([.int p0, .int p1]) (n := 2) (Nat.le_of_ble_eq_true rfl)
  rw [lg_entry_eq]
  generalize (lg_sl ([.int p0, .int p1]) ++ List.replicate (2 - (lg_sl ([.int p0, .int p1])).length) Slot.unset).toArray = ls at hl ⊢
  have hl : lv_has ls 2 [(0, .int p0), (1, .int p1)] := hl
  have hR0 := hR
  refine lv_iload_n hx hb dX1_isIn_0 rfl (lv_at hl 0 rfl) ?_
  refine lv_iload_n hx hb dX1_isIn_1 rfl (lv_at hl 1 rfl) ?_
  refine lv_ishr hx hb dX1_isIn_2 ?_
  refine lv_iconst (v := (1 : Int32)) hx hb dX1_isIn_3 (by decide) ?_
  refine lv_iand hx hb dX1_isIn_4 ?_
  refine lv_iconst (v := (1 : Int32)) hx hb dX1_isIn_5 (by decide) ?_
  obtain ⟨ha, hb2⟩ := h
  refine lv_icmp_ne (tgt := 13) hx hb dX1_isIn_6 (by decide) (fun hc => ?_) (fun hc => ?_)
  · replace h := ha hc
    refine lv_iconst (v := (0 : Int32)) hx hb dX1_isIn_13 (by decide) ?_
    exact k_reti hx hb hr hlocks (by decide) hR hS h dX1_isIn_14
  · replace h := hb2 hc
    refine lv_iconst (v := (1 : Int32)) hx hb dX1_isIn_9 (by decide) ?_
    refine lv_goto (tgt := 14) hx hb dX1_isIn_10 (by decide) ?_
    exact k_reti hx hb hr hlocks (by decide) hR hS h dX1_isIn_14

def wp_X1_greatestIn_L4 (G : k_G) (post : Int32 → k_M → Prop) : Nat → Nat → Int32 → Int32 → Int32 → k_M → Prop
  | 0 => fun _ _ _ _ _ => False
  | n + 1 => fun x0 x1 x2 x3 M =>
  (((16 : Int32) ≤ x3 →
      post x2 M) ∧
      (¬ (16 : Int32) ≤ x3 →
      wp_X1_isIn G (fun r2 M3 =>
        ((r2 = 0 →
        (wp_X1_greatestIn_L4 G post n) x0 x1 x2 (x3 + (1 : Int32)) M3) ∧
        (¬ r2 = 0 →
        (∃ fs5 v6, M3 x0 = some (kO 2 fs5) ∧ fs5[0]? = some (.ref v6) ∧
          (∃ n9 f10, M3 v6 = some (kI G n9 f10) ∧ vp_in x3 n9 ∧
          (∀ y13 : Int32, y13 = (if x2 < (f10 (x3).toNatClampNeg) then (f10 (x3).toNatClampNeg) else x2) →
          (wp_X1_greatestIn_L4 G post n) x0 x1 y13 (x3 + (1 : Int32)) M3)))))) x1 x3 M))
def wp_X1_greatestIn (G : k_G) (post : Int32 → k_M → Prop) (p0 : Nat) (p1 : Int32) (M0 : k_M) : Prop :=
  ∃ k1, wp_X1_greatestIn_L4 G post k1 p0 p1 (0 : Int32) (0 : Int32) M0
theorem in_X1_greatestIn_X1 : ∀ w ∈ wsX10, w ∈ wsX1_greatestIn := by decide +kernel
set_option maxHeartbeats 4000000 in
set_option maxRecDepth 100000 in
theorem c_X1_greatestIn (l : Launch) (G : k_G) (M0 : k_M) (sz : Nat) (post : Int32 → k_M → Prop) (p0 : Nat) (p1 : Int32) (h : wp_X1_greatestIn G post p0 p1 M0) : Met l yX1_greatestIn wsX1_greatestIn ({ frames := 1, cells := 0, slots := 0, locals := 21 }) (va_Pc [.ref p0, .int p1] (kPre G M0 sz)) (va_Qi post (kB G M0 sz) (kA M0 sz)) 0 0 (kA M0 sz) := by
  refine Met.ofW (cc := cX1_greatestIn) (maxL := 4) (ret := (some .int)) (by decide) rfl ?_
  intro p e s m args below meth c s₁ B hml hv
  obtain ⟨rfl, hsz, hR, hE⟩ := hv
  have hx := B.exec
  have hb := B.bytes
  have hr := B.returns
  have hts := atoms_spec (ws := wsX1_greatestIn) B.pre
  have hown : s.vm.findClass RX1 = some m.cls := findClass_of_methodNamed B.named
  have hlocks := B.notSynchronized
  subst hsz
  have hK := hE.1
  have hA : ∀ q, s.heap.size ≤ q → kA M0 s.heap.size q := kA.new
  have hS : va_S (kA M0 s.heap.size) s.heap s.heap [] := va_S.rf
  have hw1 := hts (.fieldLink RX1 9 "ForkedStamps$Stamp" "heights" "[I") (by decide +kernel)
  have hw2 := hts (.methodLink RX1 28 Lib.Math.max.name) (by decide +kernel)
  have hw3 := hts (.static Lib.Math.max.name) (by decide +kernel)
  have hw4 := hts (.initialized "java/lang/Math") (by decide +kernel)
  have hw5 := hts (.code Lib.Math.max.name Lib.Math.max.code 2 (some .int)) (by decide +kernel)
  have L4 : ∀ (n : Nat), ∀ (x0 : Nat) (x1 : Int32) (x2 : Int32) (x3 : Int32) (M : k_M) (H : Heap) (locs : List Loc) (ls : Array Slot), wp_X1_greatestIn_L4 G post n x0 x1 x2 x3 M → lv_has ls 4 [(0, .ref x0), (1, .int x1), (2, .int x2), (3, .int x3)] → kR G M (kA M0 s.heap.size) H → va_S (kA M0 s.heap.size) s.heap H locs → W p l e (headSpec wsX1_greatestIn ({ frames := 1, cells := 0, slots := 0, locals := 21 })).room s m ([.ref p0, .int p1] : List Value).toArray below meth c H locs 0 0 (MQ below (va_Qi post (kB G M0 s.heap.size) (kA M0 s.heap.size)) ([.ref p0, .int p1] : List Value).toArray s 0 0 (kA M0 s.heap.size)) (F0 m 4 ls []) := by
    intro n
    induction n with
    | zero =>
      intro  x0 x1 x2 x3 M H locs ls h
      exact False.elim h
    | succ n ih =>
      intro  x0 x1 x2 x3 M H locs ls h hl hR hS
      refine lv_iload_n hx hb dX1_greatestIn_4 rfl (lv_at hl 3 rfl) ?_
      refine lv_bipush (v := (16 : Int32)) hx hb dX1_greatestIn_5 (by decide) ?_
      obtain ⟨ha, hb2⟩ := h
      refine lv_icmp_ge (tgt := 35) hx hb dX1_greatestIn_7 (by decide) (fun hc => ?_) (fun hc => ?_)
      · replace h := ha hc
        refine lv_iload_n hx hb dX1_greatestIn_35 rfl (lv_at hl 2 rfl) ?_
        exact k_reti hx hb hr hlocks rfl hR hS h dX1_greatestIn_36
      · replace h := hb2 hc
        refine lv_iload_n hx hb dX1_greatestIn_10 rfl (lv_at hl 1 rfl) ?_
        refine lv_iload_n hx hb dX1_greatestIn_11 rfl (lv_at hl 3 rfl) ?_
        refine k_calli0 (va_runS (As := [.int x1, .int x3]) (rest := []) ⟨hx, hb, hml, hown, hts⟩ (c_X1_isIn l G _ _ _ x1 x3 h) (va_cwS 2 hts gX1_greatestIn_X1_isIn rfl rfl rfl (by decide +kernel) ⟨Nat.le_of_ble_eq_true rfl, Nat.le_of_ble_eq_true rfl⟩) (k_preS hR hS hA hE) rfl rfl hl.1 rfl (lv_room (Nat.le_of_ble_eq_true rfl)) dX1_greatestIn_12 ⟨Nat.zero_le _, Nat.zero_le _⟩) hR hS hA (fun r2 M3 H locs h hR hS => ?_)
        obtain ⟨ha, hb2⟩ := h
        refine lv_if_eq (tgt := 29) hx hb dX1_greatestIn_15 (by decide) (fun hc => ?_) (fun hc => ?_)
        · replace h := ha hc
          refine lv_iinc (v := (x3 + (1 : Int32))) (lv' := [(3, .int (x3 + (1 : Int32))), (0, .ref x0), (1, .int x1), (2, .int x2)]) hx hb dX1_greatestIn_29 hl (k := 3) rfl rfl (by decide) rfl (fun ls hl => ?_)
          refine lv_goto (tgt := 4) hx hb dX1_greatestIn_32 (by decide) ?_
          exact ih _ _ _ _ _ _ _ _ h (lv_sub hl [1, 2, 3, 0] rfl) hR hS
        · replace h := hb2 hc
          refine lv_iload_n hx hb dX1_greatestIn_18 rfl (lv_at hl 2 rfl) ?_
          refine lv_aload_n hx hb dX1_greatestIn_19 rfl (lv_at hl 0 rfl) ?_
          obtain ⟨fs5, v6, hm7, hv8, h⟩ := h
          refine k_get (ci := 2) (C := RX1) (T := TX1) (N := 3) hx hb hts in_X1_greatestIn_X1 hown hK hR hm7 rfl 0 (by decide) hw1 (fun _ h9 => h9) hv8 dX1_greatestIn_20 ?_
          refine lv_iload_n hx hb dX1_greatestIn_23 rfl (lv_at hl 3 rfl) ?_
          obtain ⟨n9, f10, hm11, hv12, h⟩ := h
          refine k_iald hx hb hK hR hm11 hv12 dX1_greatestIn_24 ?_
          refine va_mmax hx hb (by rw [hml]; exact hl.1.symm) hown hw2 hw3 hw4 hw5 (Nat.le_of_ble_eq_true rfl) (Nat.le_of_ble_eq_true rfl) (Nat.le_of_ble_eq_true rfl) (Nat.le_of_ble_eq_true rfl) dX1_greatestIn_25 ?_
          refine lv_topi (fun y13 ey13 => ?_)
          replace h := h y13 ey13
          refine lv_istore_n (lv' := [(2, .int y13), (0, .ref x0), (1, .int x1), (3, .int x3)]) hx hb dX1_greatestIn_28 rfl hl (by decide) rfl (fun ls hl => ?_)
          refine lv_iinc (v := (x3 + (1 : Int32))) (lv' := [(3, .int (x3 + (1 : Int32))), (2, .int y13), (0, .ref x0), (1, .int x1)]) hx hb dX1_greatestIn_29 hl (k := 3) rfl rfl (by decide) rfl (fun ls hl => ?_)
          refine lv_goto (tgt := 4) hx hb dX1_greatestIn_32 (by decide) ?_
          exact ih _ _ _ _ _ _ _ _ h (lv_sub hl [2, 3, 1, 0] rfl) hR hS
  have hl := lv_entry ([.ref p0, .int p1]) (n := 4) (Nat.le_of_ble_eq_true rfl)
  rw [lg_entry_eq]
  generalize (lg_sl ([.ref p0, .int p1]) ++ List.replicate (4 - (lg_sl ([.ref p0, .int p1])).length) Slot.unset).toArray = ls at hl ⊢
  have hl : lv_has ls 4 [(0, .ref p0), (1, .int p1)] := hl
  have hR0 := hR
  refine lv_iconst (v := (0 : Int32)) hx hb dX1_greatestIn_0 (by decide) ?_
  refine lv_istore_n (lv' := [(2, .int (0 : Int32)), (0, .ref p0), (1, .int p1)]) hx hb dX1_greatestIn_1 rfl hl (by decide) rfl (fun ls hl => ?_)
  refine lv_iconst (v := (0 : Int32)) hx hb dX1_greatestIn_2 (by decide) ?_
  refine lv_istore_n (lv' := [(3, .int (0 : Int32)), (2, .int (0 : Int32)), (0, .ref p0), (1, .int p1)]) hx hb dX1_greatestIn_3 rfl hl (by decide) rfl (fun ls hl => ?_)
  obtain ⟨k1, h⟩ := h
  exact L4 k1 _ _ _ _ _ _ _ _ h (lv_sub hl [2, 3, 1, 0] rfl) hR hS

def wp_X1_isLevel_L2 (G : k_G) (post : Int32 → k_M → Prop) : Nat → Nat → Int32 → Int32 → Int32 → k_M → Prop
  | 0 => fun _ _ _ _ _ => False
  | n + 1 => fun x0 x1 x2 x3 M =>
  (((16 : Int32) ≤ x3 →
      post (1 : Int32) M) ∧
      (¬ (16 : Int32) ≤ x3 →
      wp_X1_isIn G (fun r2 M3 =>
        ((r2 = 0 →
        (wp_X1_isLevel_L2 G post n) x0 x1 x2 (x3 + (1 : Int32)) M3) ∧
        (¬ r2 = 0 →
        (∃ fs5 v6, M3 x0 = some (kO 2 fs5) ∧ fs5[0]? = some (.ref v6) ∧
          (∃ n9 f10, M3 v6 = some (kI G n9 f10) ∧ vp_in x3 n9 ∧
          (((f10 (x3).toNatClampNeg) = x2 →
          (wp_X1_isLevel_L2 G post n) x0 x1 x2 (x3 + (1 : Int32)) M3) ∧
          (¬ (f10 (x3).toNatClampNeg) = x2 →
          post (0 : Int32) M3))))))) x1 x3 M))
def wp_X1_isLevel (G : k_G) (post : Int32 → k_M → Prop) (p0 : Nat) (p1 : Int32) (p2 : Int32) (M0 : k_M) : Prop :=
  ∃ k1, wp_X1_isLevel_L2 G post k1 p0 p1 p2 (0 : Int32) M0
theorem in_X1_isLevel_X1 : ∀ w ∈ wsX10, w ∈ wsX1_isLevel := by decide +kernel
set_option maxHeartbeats 4000000 in
set_option maxRecDepth 100000 in
theorem c_X1_isLevel (l : Launch) (G : k_G) (M0 : k_M) (sz : Nat) (post : Int32 → k_M → Prop) (p0 : Nat) (p1 : Int32) (p2 : Int32) (h : wp_X1_isLevel G post p0 p1 p2 M0) : Met l yX1_isLevel wsX1_isLevel ({ frames := 1, cells := 0, slots := 0, locals := 21 }) (va_Pc [.ref p0, .int p1, .int p2] (kPre G M0 sz)) (va_Qi post (kB G M0 sz) (kA M0 sz)) 0 0 (kA M0 sz) := by
  refine Met.ofW (cc := cX1_isLevel) (maxL := 4) (ret := (some .boolean)) (by decide) rfl ?_
  intro p e s m args below meth c s₁ B hml hv
  obtain ⟨rfl, hsz, hR, hE⟩ := hv
  have hx := B.exec
  have hb := B.bytes
  have hr := B.returns
  have hts := atoms_spec (ws := wsX1_isLevel) B.pre
  have hown : s.vm.findClass RX1 = some m.cls := findClass_of_methodNamed B.named
  have hlocks := B.notSynchronized
  subst hsz
  have hK := hE.1
  have hA : ∀ q, s.heap.size ≤ q → kA M0 s.heap.size q := kA.new
  have hS : va_S (kA M0 s.heap.size) s.heap s.heap [] := va_S.rf
  have hw1 := hts (.fieldLink RX1 9 "ForkedStamps$Stamp" "heights" "[I") (by decide +kernel)
  have L2 : ∀ (n : Nat), ∀ (x0 : Nat) (x1 : Int32) (x2 : Int32) (x3 : Int32) (M : k_M) (H : Heap) (locs : List Loc) (ls : Array Slot), wp_X1_isLevel_L2 G post n x0 x1 x2 x3 M → lv_has ls 4 [(0, .ref x0), (1, .int x1), (2, .int x2), (3, .int x3)] → kR G M (kA M0 s.heap.size) H → va_S (kA M0 s.heap.size) s.heap H locs → W p l e (headSpec wsX1_isLevel ({ frames := 1, cells := 0, slots := 0, locals := 21 })).room s m ([.ref p0, .int p1, .int p2] : List Value).toArray below meth c H locs 0 0 (MQ below (va_Qi post (kB G M0 s.heap.size) (kA M0 s.heap.size)) ([.ref p0, .int p1, .int p2] : List Value).toArray s 0 0 (kA M0 s.heap.size)) (F0 m 2 ls []) := by
    intro n
    induction n with
    | zero =>
      intro  x0 x1 x2 x3 M H locs ls h
      exact False.elim h
    | succ n ih =>
      intro  x0 x1 x2 x3 M H locs ls h hl hR hS
      refine lv_iload_n hx hb dX1_isLevel_2 rfl (lv_at hl 3 rfl) ?_
      refine lv_bipush (v := (16 : Int32)) hx hb dX1_isLevel_3 (by decide) ?_
      obtain ⟨ha, hb2⟩ := h
      refine lv_icmp_ge (tgt := 34) hx hb dX1_isLevel_5 (by decide) (fun hc => ?_) (fun hc => ?_)
      · replace h := ha hc
        refine lv_iconst (v := (1 : Int32)) hx hb dX1_isLevel_34 (by decide) ?_
        exact k_reti hx hb hr hlocks (by decide) hR hS h dX1_isLevel_35
      · replace h := hb2 hc
        refine lv_iload_n hx hb dX1_isLevel_8 rfl (lv_at hl 1 rfl) ?_
        refine lv_iload_n hx hb dX1_isLevel_9 rfl (lv_at hl 3 rfl) ?_
        refine k_calli0 (va_runS (As := [.int x1, .int x3]) (rest := []) ⟨hx, hb, hml, hown, hts⟩ (c_X1_isIn l G _ _ _ x1 x3 h) (va_cwS 2 hts gX1_isLevel_X1_isIn rfl rfl rfl (by decide +kernel) ⟨Nat.le_of_ble_eq_true rfl, Nat.le_of_ble_eq_true rfl⟩) (k_preS hR hS hA hE) rfl rfl hl.1 rfl (lv_room (Nat.le_of_ble_eq_true rfl)) dX1_isLevel_10 ⟨Nat.zero_le _, Nat.zero_le _⟩) hR hS hA (fun r2 M3 H locs h hR hS => ?_)
        obtain ⟨ha, hb2⟩ := h
        refine lv_if_eq (tgt := 28) hx hb dX1_isLevel_13 (by decide) (fun hc => ?_) (fun hc => ?_)
        · replace h := ha hc
          refine lv_iinc (v := (x3 + (1 : Int32))) (lv' := [(3, .int (x3 + (1 : Int32))), (0, .ref x0), (1, .int x1), (2, .int x2)]) hx hb dX1_isLevel_28 hl (k := 3) rfl rfl (by decide) rfl (fun ls hl => ?_)
          refine lv_goto (tgt := 2) hx hb dX1_isLevel_31 (by decide) ?_
          exact ih _ _ _ _ _ _ _ _ h (lv_sub hl [1, 2, 3, 0] rfl) hR hS
        · replace h := hb2 hc
          refine lv_aload_n hx hb dX1_isLevel_16 rfl (lv_at hl 0 rfl) ?_
          obtain ⟨fs5, v6, hm7, hv8, h⟩ := h
          refine k_get (ci := 2) (C := RX1) (T := TX1) (N := 3) hx hb hts in_X1_isLevel_X1 hown hK hR hm7 rfl 0 (by decide) hw1 (fun _ h9 => h9) hv8 dX1_isLevel_17 ?_
          refine lv_iload_n hx hb dX1_isLevel_20 rfl (lv_at hl 3 rfl) ?_
          obtain ⟨n9, f10, hm11, hv12, h⟩ := h
          refine k_iald hx hb hK hR hm11 hv12 dX1_isLevel_21 ?_
          refine lv_iload_n hx hb dX1_isLevel_22 rfl (lv_at hl 2 rfl) ?_
          obtain ⟨ha, hb2⟩ := h
          refine lv_icmp_eq (tgt := 28) hx hb dX1_isLevel_23 (by decide) (fun hc => ?_) (fun hc => ?_)
          · replace h := ha hc
            refine lv_iinc (v := (x3 + (1 : Int32))) (lv' := [(3, .int (x3 + (1 : Int32))), (0, .ref x0), (1, .int x1), (2, .int x2)]) hx hb dX1_isLevel_28 hl (k := 3) rfl rfl (by decide) rfl (fun ls hl => ?_)
            refine lv_goto (tgt := 2) hx hb dX1_isLevel_31 (by decide) ?_
            exact ih _ _ _ _ _ _ _ _ h (lv_sub hl [1, 2, 3, 0] rfl) hR hS
          · replace h := hb2 hc
            refine lv_iconst (v := (0 : Int32)) hx hb dX1_isLevel_26 (by decide) ?_
            exact k_reti hx hb hr hlocks (by decide) hR hS h dX1_isLevel_27
  have hl := lv_entry ([.ref p0, .int p1, .int p2]) (n := 4) (Nat.le_of_ble_eq_true rfl)
  rw [lg_entry_eq]
  generalize (lg_sl ([.ref p0, .int p1, .int p2]) ++ List.replicate (4 - (lg_sl ([.ref p0, .int p1, .int p2])).length) Slot.unset).toArray = ls at hl ⊢
  have hl : lv_has ls 4 [(0, .ref p0), (1, .int p1), (2, .int p2)] := hl
  have hR0 := hR
  refine lv_iconst (v := (0 : Int32)) hx hb dX1_isLevel_0 (by decide) ?_
  refine lv_istore_n (lv' := [(3, .int (0 : Int32)), (0, .ref p0), (1, .int p1), (2, .int p2)]) hx hb dX1_isLevel_1 rfl hl (by decide) rfl (fun ls hl => ?_)
  obtain ⟨k1, h⟩ := h
  exact L2 k1 _ _ _ _ _ _ _ _ h (lv_sub hl [1, 2, 3, 0] rfl) hR hS

def wp_X1_raise_L26 (G : k_G) (post : k_M → Prop) : Nat → Nat → Int32 → Int32 → Int32 → k_M → Prop
  | 0 => fun _ _ _ _ _ => False
  | n + 1 => fun x0 x1 x3 x4 M =>
  (((16 : Int32) ≤ x4 →
      post M) ∧
      (¬ (16 : Int32) ≤ x4 →
      wp_X1_isIn G (fun r10 M11 =>
        ((r10 = 0 →
        (wp_X1_raise_L26 G post n) x0 x1 x3 (x4 + (1 : Int32)) M11) ∧
        (¬ r10 = 0 →
        (∃ fs13 v14, M11 x0 = some (kO 2 fs13) ∧ fs13[0]? = some (.ref v14) ∧
          (∃ n17 f18, M11 v14 = some (kI G n17 f18) ∧ vp_in x4 n17 ∧ ∀ M19 : k_M, M19 = va_up M11 v14 (some (kI G n17 (upd f18 (x4).toNatClampNeg x3))) →
          (wp_X1_raise_L26 G post n) x0 x1 x3 (x4 + (1 : Int32)) M19))))) x1 x4 M))
def wp_X1_raise (G : k_G) (post : k_M → Prop) (p0 : Nat) (p1 : Int32) (M0 : k_M) : Prop :=
  (∃ fs4, M0 p0 = some (kO 2 fs4) ∧ wp_X1_greatestIn G (fun r1 M2 =>
  (∃ fs8, M2 p0 = some (kO 2 fs8) ∧ wp_X1_isLevel G (fun r5 M6 =>
  ((r5 = 0 →
  ∃ k9, wp_X1_raise_L26 G post k9 p0 p1 r1 (0 : Int32) M6) ∧
  (¬ r5 = 0 →
  ∃ k22, wp_X1_raise_L26 G post k22 p0 p1 (r1 + (1 : Int32)) (0 : Int32) M6))) p0 p1 r1 M2)) p0 p1 M0)
theorem in_X1_raise_X1 : ∀ w ∈ wsX10, w ∈ wsX1_raise := by decide +kernel
set_option maxHeartbeats 4000000 in
set_option maxRecDepth 100000 in
theorem c_X1_raise (l : Launch) (G : k_G) (M0 : k_M) (sz : Nat) (post : k_M → Prop) (p0 : Nat) (p1 : Int32) (h : wp_X1_raise G post p0 p1 M0) : Met l yX1_raise wsX1_raise ({ frames := 2, cells := 0, slots := 0, locals := 44 }) (va_Pc [.ref p0, .int p1] (kPre G M0 sz)) (va_Qv post (kB G M0 sz) (kA M0 sz)) 0 0 (kA M0 sz) := by
  refine Met.ofW (cc := cX1_raise) (maxL := 5) (ret := none) (by decide) rfl ?_
  intro p e s m args below meth c s₁ B hml hv
  obtain ⟨rfl, hsz, hR, hE⟩ := hv
  have hx := B.exec
  have hb := B.bytes
  have hr := B.returns
  have hts := atoms_spec (ws := wsX1_raise) B.pre
  have hown : s.vm.findClass RX1 = some m.cls := findClass_of_methodNamed B.named
  have hlocks := B.notSynchronized
  subst hsz
  have hK := hE.1
  have hA : ∀ q, s.heap.size ≤ q → kA M0 s.heap.size q := kA.new
  have hS : va_S (kA M0 s.heap.size) s.heap s.heap [] := va_S.rf
  have hw1 := hts (.fieldLink RX1 9 "ForkedStamps$Stamp" "heights" "[I") (by decide +kernel)
  have L26 : ∀ (n : Nat), ∀ (x0 : Nat) (x1 : Int32) (x3 : Int32) (x4 : Int32) (M : k_M) (H : Heap) (locs : List Loc) (ls : Array Slot), wp_X1_raise_L26 G post n x0 x1 x3 x4 M → lv_has ls 5 [(0, .ref x0), (1, .int x1), (3, .int x3), (4, .int x4)] → kR G M (kA M0 s.heap.size) H → va_S (kA M0 s.heap.size) s.heap H locs → W p l e (headSpec wsX1_raise ({ frames := 2, cells := 0, slots := 0, locals := 44 })).room s m ([.ref p0, .int p1] : List Value).toArray below meth c H locs 0 0 (MQ below (va_Qv post (kB G M0 s.heap.size) (kA M0 s.heap.size)) ([.ref p0, .int p1] : List Value).toArray s 0 0 (kA M0 s.heap.size)) (F0 m 26 ls []) := by
    intro n
    induction n with
    | zero =>
      intro  x0 x1 x3 x4 M H locs ls h
      exact False.elim h
    | succ n ih =>
      intro  x0 x1 x3 x4 M H locs ls h hl hR hS
      refine lv_iload hx hb dX1_raise_26 (lv_at hl 3 rfl) ?_
      refine lv_bipush (v := (16 : Int32)) hx hb dX1_raise_28 (by decide) ?_
      obtain ⟨ha, hb2⟩ := h
      refine lv_icmp_ge (tgt := 56) hx hb dX1_raise_30 (by decide) (fun hc => ?_) (fun hc => ?_)
      · replace h := ha hc
        exact k_retv hx hb hr hlocks hR hS h dX1_raise_56
      · replace h := hb2 hc
        refine lv_iload_n hx hb dX1_raise_33 rfl (lv_at hl 1 rfl) ?_
        refine lv_iload hx hb dX1_raise_34 (lv_at hl 3 rfl) ?_
        refine k_calli0 (va_runS (As := [.int x1, .int x4]) (rest := []) ⟨hx, hb, hml, hown, hts⟩ (c_X1_isIn l G _ _ _ x1 x4 h) (va_cwS 2 hts gX1_raise_X1_isIn rfl rfl rfl (by decide +kernel) ⟨Nat.le_of_ble_eq_true rfl, Nat.le_of_ble_eq_true rfl⟩) (k_preS hR hS hA hE) rfl rfl hl.1 rfl (lv_room (Nat.le_of_ble_eq_true rfl)) dX1_raise_36 ⟨Nat.zero_le _, Nat.zero_le _⟩) hR hS hA (fun r10 M11 H locs h hR hS => ?_)
        obtain ⟨ha, hb2⟩ := h
        refine lv_if_eq (tgt := 50) hx hb dX1_raise_39 (by decide) (fun hc => ?_) (fun hc => ?_)
        · replace h := ha hc
          refine lv_iinc (v := (x4 + (1 : Int32))) (lv' := [(4, .int (x4 + (1 : Int32))), (0, .ref x0), (1, .int x1), (3, .int x3)]) hx hb dX1_raise_50 hl (k := 3) rfl rfl (by decide) rfl (fun ls hl => ?_)
          refine lv_goto (tgt := 26) hx hb dX1_raise_53 (by decide) ?_
          exact ih _ _ _ _ _ _ _ _ h (lv_sub hl [1, 2, 3, 0] rfl) hR hS
        · replace h := hb2 hc
          refine lv_aload_n hx hb dX1_raise_42 rfl (lv_at hl 0 rfl) ?_
          obtain ⟨fs13, v14, hm15, hv16, h⟩ := h
          refine k_get (ci := 2) (C := RX1) (T := TX1) (N := 3) hx hb hts in_X1_raise_X1 hown hK hR hm15 rfl 0 (by decide) hw1 (fun _ h9 => h9) hv16 dX1_raise_43 ?_
          refine lv_iload hx hb dX1_raise_46 (lv_at hl 3 rfl) ?_
          refine lv_iload_n hx hb dX1_raise_48 rfl (lv_at hl 2 rfl) ?_
          obtain ⟨n17, f18, hm20, hv21, h⟩ := h
          replace h := h _ rfl
          refine k_iast hx hb hK hR hS hm20 hv21 dX1_raise_49 (fun H locs hR hS => ?_)
          refine lv_iinc (v := (x4 + (1 : Int32))) (lv' := [(4, .int (x4 + (1 : Int32))), (0, .ref x0), (1, .int x1), (3, .int x3)]) hx hb dX1_raise_50 hl (k := 3) rfl rfl (by decide) rfl (fun ls hl => ?_)
          refine lv_goto (tgt := 26) hx hb dX1_raise_53 (by decide) ?_
          exact ih _ _ _ _ _ _ _ _ h (lv_sub hl [1, 2, 3, 0] rfl) hR hS
  have hl := lv_entry ([.ref p0, .int p1]) (n := 5) (Nat.le_of_ble_eq_true rfl)
  rw [lg_entry_eq]
  generalize (lg_sl ([.ref p0, .int p1]) ++ List.replicate (5 - (lg_sl ([.ref p0, .int p1])).length) Slot.unset).toArray = ls at hl ⊢
  have hl : lv_has ls 5 [(0, .ref p0), (1, .int p1)] := hl
  have hR0 := hR
  refine lv_aload_n hx hb dX1_raise_0 rfl (lv_at hl 0 rfl) ?_
  refine lv_iload_n hx hb dX1_raise_1 rfl (lv_at hl 1 rfl) ?_
  obtain ⟨fs4, hm3, h⟩ := h
  refine k_calli0 (va_runV (As := [.int p1]) (rest := []) ⟨hx, hb, hml, hown, hts⟩ (c_X1_greatestIn l G _ _ _ p0 p1 h) (cwV 1 hts gX1_raise_X1_greatestIn rfl rfl rfl (by decide +kernel) ⟨Nat.le_of_ble_eq_true rfl, Nat.le_of_ble_eq_true rfl⟩) (k_preV (q := (RX1, TX1, 3)) hm3 rfl hR hS hA hE) rfl rfl hl.1 rfl (lv_room (Nat.le_of_ble_eq_true rfl)) dX1_raise_2 ⟨Nat.zero_le _, Nat.zero_le _⟩) hR hS hA (fun r1 M2 H locs h hR hS => ?_)
  refine lv_istore_n (lv' := [(2, .int r1), (0, .ref p0), (1, .int p1)]) hx hb dX1_raise_5 rfl hl (by decide) rfl (fun ls hl => ?_)
  refine lv_aload_n hx hb dX1_raise_6 rfl (lv_at hl 1 rfl) ?_
  refine lv_iload_n hx hb dX1_raise_7 rfl (lv_at hl 2 rfl) ?_
  refine lv_iload_n hx hb dX1_raise_8 rfl (lv_at hl 0 rfl) ?_
  obtain ⟨fs8, hm7, h⟩ := h
  refine k_calli0 (va_runV (As := [.int p1, .int r1]) (rest := []) ⟨hx, hb, hml, hown, hts⟩ (c_X1_isLevel l G _ _ _ p0 p1 r1 h) (cwV 2 hts gX1_raise_X1_isLevel rfl rfl rfl (by decide +kernel) ⟨Nat.le_of_ble_eq_true rfl, Nat.le_of_ble_eq_true rfl⟩) (k_preV (q := (RX1, TX1, 3)) hm7 rfl hR hS hA hE) rfl rfl hl.1 rfl (lv_room (Nat.le_of_ble_eq_true rfl)) dX1_raise_9 ⟨Nat.zero_le _, Nat.zero_le _⟩) hR hS hA (fun r5 M6 H locs h hR hS => ?_)
  obtain ⟨ha, hb2⟩ := h
  refine lv_if_eq (tgt := 21) hx hb dX1_raise_12 (by decide) (fun hc => ?_) (fun hc => ?_)
  · replace h := ha hc
    refine lv_iload_n hx hb dX1_raise_21 rfl (lv_at hl 0 rfl) ?_
    refine lv_istore_n (lv' := [(3, .int r1), (2, .int r1), (0, .ref p0), (1, .int p1)]) hx hb dX1_raise_22 rfl hl (by decide) rfl (fun ls hl => ?_)
    refine lv_iconst (v := (0 : Int32)) hx hb dX1_raise_23 (by decide) ?_
    refine lv_istore (lv' := [(4, .int (0 : Int32)), (3, .int r1), (2, .int r1), (0, .ref p0), (1, .int p1)]) hx hb dX1_raise_24 hl (by decide) rfl (fun ls hl => ?_)
    obtain ⟨k9, h⟩ := h
    exact L26 k9 _ _ _ _ _ _ _ _ h (lv_sub hl [3, 4, 1, 0] rfl) hR hS
  · replace h := hb2 hc
    refine lv_iload_n hx hb dX1_raise_15 rfl (lv_at hl 0 rfl) ?_
    refine lv_iconst (v := (1 : Int32)) hx hb dX1_raise_16 (by decide) ?_
    refine lv_iadd hx hb dX1_raise_17 ?_
    refine lv_goto (tgt := 22) hx hb dX1_raise_18 (by decide) ?_
    refine lv_istore_n (lv' := [(3, .int (r1 + (1 : Int32))), (2, .int r1), (0, .ref p0), (1, .int p1)]) hx hb dX1_raise_22 rfl hl (by decide) rfl (fun ls hl => ?_)
    refine lv_iconst (v := (0 : Int32)) hx hb dX1_raise_23 (by decide) ?_
    refine lv_istore (lv' := [(4, .int (0 : Int32)), (3, .int (r1 + (1 : Int32))), (2, .int r1), (0, .ref p0), (1, .int p1)]) hx hb dX1_raise_24 hl (by decide) rfl (fun ls hl => ?_)
    obtain ⟨k22, h⟩ := h
    exact L26 k22 _ _ _ _ _ _ _ _ h (lv_sub hl [3, 4, 1, 0] rfl) hR hS

def wp_X1_sum_L13 (G : k_G) (post : Int32 → k_M → Prop) : Nat → Int32 → Nat → Int32 → Int32 → k_M → Prop
  | 0 => fun _ _ _ _ _ => False
  | n + 1 => fun x1 x2 x3 x4 M =>
  ((x3 ≤ x4 →
      post x1 M) ∧
      (¬ x3 ≤ x4 →
      (∃ n9 f10, M x2 = some (kI G n9 f10) ∧ vp_in x4 n9 ∧
        (wp_X1_sum_L13 G post n) (x1 + (f10 (x4).toNatClampNeg)) x2 x3 (x4 + (1 : Int32)) M)))
def wp_X1_sum (G : k_G) (post : Int32 → k_M → Prop) (p0 : Nat) (M0 : k_M) : Prop :=
  (∃ fs1 v2, M0 p0 = some (kO 2 fs1) ∧ fs1[0]? = some (.ref v2) ∧
  (∃ n5 f6, M0 v2 = some (kI G n5 f6) ∧
  ∃ k8, wp_X1_sum_L13 G post k8 (0 : Int32) v2 (nI n5) (0 : Int32) M0))
theorem in_X1_sum_X1 : ∀ w ∈ wsX10, w ∈ wsX1_sum := by decide +kernel
set_option maxHeartbeats 4000000 in
set_option maxRecDepth 100000 in
theorem c_X1_sum (l : Launch) (G : k_G) (M0 : k_M) (sz : Nat) (post : Int32 → k_M → Prop) (p0 : Nat) (h : wp_X1_sum G post p0 M0) : Met l yX1_sum wsX1_sum ({ frames := 0, cells := 0, slots := 0, locals := 0 }) (va_Pc [.ref p0] (kPre G M0 sz)) (va_Qi post (kB G M0 sz) (kA M0 sz)) 0 0 (kA M0 sz) := by
  refine Met.ofW (cc := cX1_sum) (maxL := 6) (ret := (some .int)) (by decide) rfl ?_
  intro p e s m args below meth c s₁ B hml hv
  obtain ⟨rfl, hsz, hR, hE⟩ := hv
  have hx := B.exec
  have hb := B.bytes
  have hr := B.returns
  have hts := atoms_spec (ws := wsX1_sum) B.pre
  have hown : s.vm.findClass RX1 = some m.cls := findClass_of_methodNamed B.named
  have hlocks := B.notSynchronized
  subst hsz
  have hK := hE.1
  have hA : ∀ q, s.heap.size ≤ q → kA M0 s.heap.size q := kA.new
  have hS : va_S (kA M0 s.heap.size) s.heap s.heap [] := va_S.rf
  have hw1 := hts (.fieldLink RX1 9 "ForkedStamps$Stamp" "heights" "[I") (by decide +kernel)
  have L13 : ∀ (n : Nat), ∀ (x1 : Int32) (x2 : Nat) (x3 : Int32) (x4 : Int32) (M : k_M) (H : Heap) (locs : List Loc) (ls : Array Slot), wp_X1_sum_L13 G post n x1 x2 x3 x4 M → lv_has ls 6 [(1, .int x1), (2, .ref x2), (3, .int x3), (4, .int x4)] → kR G M (kA M0 s.heap.size) H → va_S (kA M0 s.heap.size) s.heap H locs → W p l e (headSpec wsX1_sum ({ frames := 0, cells := 0, slots := 0, locals := 0 })).room s m ([.ref p0] : List Value).toArray below meth c H locs 0 0 (MQ below (va_Qi post (kB G M0 s.heap.size) (kA M0 s.heap.size)) ([.ref p0] : List Value).toArray s 0 0 (kA M0 s.heap.size)) (F0 m 13 ls []) := by
    intro n
    induction n with
    | zero =>
      intro  x1 x2 x3 x4 M H locs ls h
      exact False.elim h
    | succ n ih =>
      intro  x1 x2 x3 x4 M H locs ls h hl hR hS
      refine lv_iload hx hb dX1_sum_13 (lv_at hl 3 rfl) ?_
      refine lv_iload_n hx hb dX1_sum_15 rfl (lv_at hl 2 rfl) ?_
      obtain ⟨ha, hb2⟩ := h
      refine lv_icmp_ge (tgt := 36) hx hb dX1_sum_16 (by decide) (fun hc => ?_) (fun hc => ?_)
      · replace h := ha hc
        refine lv_iload_n hx hb dX1_sum_36 rfl (lv_at hl 0 rfl) ?_
        exact k_reti hx hb hr hlocks rfl hR hS h dX1_sum_37
      · replace h := hb2 hc
        refine lv_aload_n hx hb dX1_sum_19 rfl (lv_at hl 1 rfl) ?_
        refine lv_iload hx hb dX1_sum_20 (lv_at hl 3 rfl) ?_
        obtain ⟨n9, f10, hm11, hv12, h⟩ := h
        refine k_iald hx hb hK hR hm11 hv12 dX1_sum_22 ?_
        refine lv_istore (lv' := [(5, .int (f10 (x4).toNatClampNeg)), (1, .int x1), (2, .ref x2), (3, .int x3), (4, .int x4)]) hx hb dX1_sum_23 hl (by decide) rfl (fun ls hl => ?_)
        refine lv_iload_n hx hb dX1_sum_25 rfl (lv_at hl 1 rfl) ?_
        refine lv_iload hx hb dX1_sum_26 (lv_at hl 0 rfl) ?_
        refine lv_iadd hx hb dX1_sum_28 ?_
        refine lv_istore_n (lv' := [(1, .int (x1 + (f10 (x4).toNatClampNeg))), (5, .int (f10 (x4).toNatClampNeg)), (2, .ref x2), (3, .int x3), (4, .int x4)]) hx hb dX1_sum_29 rfl hl (by decide) rfl (fun ls hl => ?_)
        refine lv_iinc (v := (x4 + (1 : Int32))) (lv' := [(4, .int (x4 + (1 : Int32))), (1, .int (x1 + (f10 (x4).toNatClampNeg))), (5, .int (f10 (x4).toNatClampNeg)), (2, .ref x2), (3, .int x3)]) hx hb dX1_sum_30 hl (k := 4) rfl rfl (by decide) rfl (fun ls hl => ?_)
        refine lv_goto (tgt := 13) hx hb dX1_sum_33 (by decide) ?_
        exact ih _ _ _ _ _ _ _ _ h (lv_sub hl [1, 3, 4, 0] rfl) hR hS
  have hl := lv_entry ([.ref p0]) (n := 6) (Nat.le_of_ble_eq_true rfl)
  rw [lg_entry_eq]
  generalize (lg_sl ([.ref p0]) ++ List.replicate (6 - (lg_sl ([.ref p0])).length) Slot.unset).toArray = ls at hl ⊢
  have hl : lv_has ls 6 [(0, .ref p0)] := hl
  have hR0 := hR
  refine lv_iconst (v := (0 : Int32)) hx hb dX1_sum_0 (by decide) ?_
  refine lv_istore_n (lv' := [(1, .int (0 : Int32)), (0, .ref p0)]) hx hb dX1_sum_1 rfl hl (by decide) rfl (fun ls hl => ?_)
  refine lv_aload_n hx hb dX1_sum_2 rfl (lv_at hl 1 rfl) ?_
  obtain ⟨fs1, v2, hm3, hv4, h⟩ := h
  refine k_get (ci := 2) (C := RX1) (T := TX1) (N := 3) hx hb hts in_X1_sum_X1 hown hK hR hm3 rfl 0 (by decide) hw1 (fun _ h9 => h9) hv4 dX1_sum_3 ?_
  refine lv_astore_n (lv' := [(2, .ref v2), (1, .int (0 : Int32)), (0, .ref p0)]) hx hb dX1_sum_6 rfl hl (by decide) rfl (fun ls hl => ?_)
  refine lv_aload_n hx hb dX1_sum_7 rfl (lv_at hl 0 rfl) ?_
  obtain ⟨n5, f6, hm7, h⟩ := h
  refine k_alen hx hb hK hR 0 hm7 rfl dX1_sum_8 ?_
  refine lv_istore_n (lv' := [(3, .int (nI n5)), (2, .ref v2), (1, .int (0 : Int32)), (0, .ref p0)]) hx hb dX1_sum_9 rfl hl (by decide) rfl (fun ls hl => ?_)
  refine lv_iconst (v := (0 : Int32)) hx hb dX1_sum_10 (by decide) ?_
  refine lv_istore (lv' := [(4, .int (0 : Int32)), (3, .int (nI n5)), (2, .ref v2), (1, .int (0 : Int32)), (0, .ref p0)]) hx hb dX1_sum_11 hl (by decide) rfl (fun ls hl => ?_)
  obtain ⟨k8, h⟩ := h
  exact L13 k8 _ _ _ _ _ _ _ _ h (lv_sub hl [3, 2, 1, 0] rfl) hR hS

def wp_X1_orderTo_L7 (G : k_G) (post : Int32 → k_M → Prop) : Nat → Nat → Nat → Int32 → Int32 → Int32 → k_M → Prop
  | 0 => fun _ _ _ _ _ _ => False
  | n + 1 => fun x0 x1 x2 x3 x4 M =>
  (((16 : Int32) ≤ x4 →
      ((x2 = 0 →
        ((x3 = 0 →
          post (0 : Int32) M) ∧
          (¬ x3 = 0 →
          post (2 : Int32) M))) ∧
        (¬ x2 = 0 →
        ((x3 = 0 →
          post (1 : Int32) M) ∧
          (¬ x3 = 0 →
          post (3 : Int32) M))))) ∧
      (¬ (16 : Int32) ≤ x4 →
      (∃ fs2 v3, M x0 = some (kO 2 fs2) ∧ fs2[0]? = some (.ref v3) ∧
        (∃ n6 f7, M v3 = some (kI G n6 f7) ∧ vp_in x4 n6 ∧
        (∃ fs10 v11, M x1 = some (kO 2 fs10) ∧ fs10[0]? = some (.ref v11) ∧
        (∃ n14 f15, M v11 = some (kI G n14 f15) ∧ vp_in x4 n14 ∧
        (((f15 (x4).toNatClampNeg) ≤ (f7 (x4).toNatClampNeg) →
        (∃ fs18 v19, M x0 = some (kO 2 fs18) ∧ fs18[0]? = some (.ref v19) ∧
          (∃ n22 f23, M v19 = some (kI G n22 f23) ∧ vp_in x4 n22 ∧
          (∃ fs26 v27, M x1 = some (kO 2 fs26) ∧ fs26[0]? = some (.ref v27) ∧
          (∃ n30 f31, M v27 = some (kI G n30 f31) ∧ vp_in x4 n30 ∧
          (((f23 (x4).toNatClampNeg) ≤ (f31 (x4).toNatClampNeg) →
          (wp_X1_orderTo_L7 G post n) x0 x1 x2 x3 (x4 + (1 : Int32)) M) ∧
          (¬ (f23 (x4).toNatClampNeg) ≤ (f31 (x4).toNatClampNeg) →
          (wp_X1_orderTo_L7 G post n) x0 x1 x2 (1 : Int32) (x4 + (1 : Int32)) M))))))) ∧
        (¬ (f15 (x4).toNatClampNeg) ≤ (f7 (x4).toNatClampNeg) →
        (wp_X1_orderTo_L7 G post n) x0 x1 (1 : Int32) x3 (x4 + (1 : Int32)) M))))))))
def wp_X1_orderTo (G : k_G) (post : Int32 → k_M → Prop) (p0 : Nat) (p1 : Nat) (M0 : k_M) : Prop :=
  ∃ k1, wp_X1_orderTo_L7 G post k1 p0 p1 (0 : Int32) (0 : Int32) (0 : Int32) M0
theorem in_X1_orderTo_X1 : ∀ w ∈ wsX10, w ∈ wsX1_orderTo := by decide +kernel
set_option maxHeartbeats 4000000 in
set_option maxRecDepth 100000 in
theorem c_X1_orderTo (l : Launch) (G : k_G) (M0 : k_M) (sz : Nat) (post : Int32 → k_M → Prop) (p0 : Nat) (p1 : Nat) (h : wp_X1_orderTo G post p0 p1 M0) : Met l yX1_orderTo wsX1_orderTo ({ frames := 0, cells := 0, slots := 0, locals := 0 }) (va_Pc [.ref p0, .ref p1] (kPre G M0 sz)) (va_Qi post (kB G M0 sz) (kA M0 sz)) 0 0 (kA M0 sz) := by
  refine Met.ofW (cc := cX1_orderTo) (maxL := 5) (ret := (some .int)) (by decide) rfl ?_
  intro p e s m args below meth c s₁ B hml hv
  obtain ⟨rfl, hsz, hR, hE⟩ := hv
  have hx := B.exec
  have hb := B.bytes
  have hr := B.returns
  have hts := atoms_spec (ws := wsX1_orderTo) B.pre
  have hown : s.vm.findClass RX1 = some m.cls := findClass_of_methodNamed B.named
  have hlocks := B.notSynchronized
  subst hsz
  have hK := hE.1
  have hA : ∀ q, s.heap.size ≤ q → kA M0 s.heap.size q := kA.new
  have hS : va_S (kA M0 s.heap.size) s.heap s.heap [] := va_S.rf
  have hw1 := hts (.fieldLink RX1 9 "ForkedStamps$Stamp" "heights" "[I") (by decide +kernel)
  have L7 : ∀ (n : Nat), ∀ (x0 : Nat) (x1 : Nat) (x2 : Int32) (x3 : Int32) (x4 : Int32) (M : k_M) (H : Heap) (locs : List Loc) (ls : Array Slot), wp_X1_orderTo_L7 G post n x0 x1 x2 x3 x4 M → lv_has ls 5 [(0, .ref x0), (1, .ref x1), (2, .int x2), (3, .int x3), (4, .int x4)] → kR G M (kA M0 s.heap.size) H → va_S (kA M0 s.heap.size) s.heap H locs → W p l e (headSpec wsX1_orderTo ({ frames := 0, cells := 0, slots := 0, locals := 0 })).room s m ([.ref p0, .ref p1] : List Value).toArray below meth c H locs 0 0 (MQ below (va_Qi post (kB G M0 s.heap.size) (kA M0 s.heap.size)) ([.ref p0, .ref p1] : List Value).toArray s 0 0 (kA M0 s.heap.size)) (F0 m 7 ls []) := by
    intro n
    induction n with
    | zero =>
      intro  x0 x1 x2 x3 x4 M H locs ls h
      exact False.elim h
    | succ n ih =>
      intro  x0 x1 x2 x3 x4 M H locs ls h hl hR hS
      refine lv_iload hx hb dX1_orderTo_7 (lv_at hl 4 rfl) ?_
      refine lv_bipush (v := (16 : Int32)) hx hb dX1_orderTo_9 (by decide) ?_
      obtain ⟨ha, hb2⟩ := h
      refine lv_icmp_ge (tgt := 61) hx hb dX1_orderTo_11 (by decide) (fun hc => ?_) (fun hc => ?_)
      · replace h := ha hc
        refine lv_iload_n hx hb dX1_orderTo_61 rfl (lv_at hl 2 rfl) ?_
        obtain ⟨ha, hb2⟩ := h
        refine lv_if_eq (tgt := 75) hx hb dX1_orderTo_62 (by decide) (fun hc => ?_) (fun hc => ?_)
        · replace h := ha hc
          refine lv_iload_n hx hb dX1_orderTo_75 rfl (lv_at hl 3 rfl) ?_
          obtain ⟨ha, hb2⟩ := h
          refine lv_if_eq (tgt := 83) hx hb dX1_orderTo_76 (by decide) (fun hc => ?_) (fun hc => ?_)
          · replace h := ha hc
            refine lv_iconst (v := (0 : Int32)) hx hb dX1_orderTo_83 (by decide) ?_
            exact k_reti hx hb hr hlocks rfl hR hS h dX1_orderTo_84
          · replace h := hb2 hc
            refine lv_iconst (v := (2 : Int32)) hx hb dX1_orderTo_79 (by decide) ?_
            refine lv_goto (tgt := 84) hx hb dX1_orderTo_80 (by decide) ?_
            exact k_reti hx hb hr hlocks rfl hR hS h dX1_orderTo_84
        · replace h := hb2 hc
          refine lv_iload_n hx hb dX1_orderTo_65 rfl (lv_at hl 3 rfl) ?_
          obtain ⟨ha, hb2⟩ := h
          refine lv_if_eq (tgt := 73) hx hb dX1_orderTo_66 (by decide) (fun hc => ?_) (fun hc => ?_)
          · replace h := ha hc
            refine lv_iconst (v := (1 : Int32)) hx hb dX1_orderTo_73 (by decide) ?_
            exact k_reti hx hb hr hlocks rfl hR hS h dX1_orderTo_74
          · replace h := hb2 hc
            refine lv_iconst (v := (3 : Int32)) hx hb dX1_orderTo_69 (by decide) ?_
            refine lv_goto (tgt := 74) hx hb dX1_orderTo_70 (by decide) ?_
            exact k_reti hx hb hr hlocks rfl hR hS h dX1_orderTo_74
      · replace h := hb2 hc
        refine lv_aload_n hx hb dX1_orderTo_14 rfl (lv_at hl 0 rfl) ?_
        obtain ⟨fs2, v3, hm4, hv5, h⟩ := h
        refine k_get (ci := 2) (C := RX1) (T := TX1) (N := 3) hx hb hts in_X1_orderTo_X1 hown hK hR hm4 rfl 0 (by decide) hw1 (fun _ h9 => h9) hv5 dX1_orderTo_15 ?_
        refine lv_iload hx hb dX1_orderTo_18 (lv_at hl 4 rfl) ?_
        obtain ⟨n6, f7, hm8, hv9, h⟩ := h
        refine k_iald hx hb hK hR hm8 hv9 dX1_orderTo_20 ?_
        refine lv_aload_n hx hb dX1_orderTo_21 rfl (lv_at hl 1 rfl) ?_
        obtain ⟨fs10, v11, hm12, hv13, h⟩ := h
        refine k_get (ci := 2) (C := RX1) (T := TX1) (N := 3) hx hb hts in_X1_orderTo_X1 hown hK hR hm12 rfl 0 (by decide) hw1 (fun _ h9 => h9) hv13 dX1_orderTo_22 ?_
        refine lv_iload hx hb dX1_orderTo_25 (lv_at hl 4 rfl) ?_
        obtain ⟨n14, f15, hm16, hv17, h⟩ := h
        refine k_iald hx hb hK hR hm16 hv17 dX1_orderTo_27 ?_
        obtain ⟨ha, hb2⟩ := h
        refine lv_icmp_ge (tgt := 36) hx hb dX1_orderTo_28 (by decide) (fun hc => ?_) (fun hc => ?_)
        · replace h := ha hc
          refine lv_aload_n hx hb dX1_orderTo_36 rfl (lv_at hl 0 rfl) ?_
          obtain ⟨fs18, v19, hm20, hv21, h⟩ := h
          refine k_get (ci := 2) (C := RX1) (T := TX1) (N := 3) hx hb hts in_X1_orderTo_X1 hown hK hR hm20 rfl 0 (by decide) hw1 (fun _ h9 => h9) hv21 dX1_orderTo_37 ?_
          refine lv_iload hx hb dX1_orderTo_40 (lv_at hl 4 rfl) ?_
          obtain ⟨n22, f23, hm24, hv25, h⟩ := h
          refine k_iald hx hb hK hR hm24 hv25 dX1_orderTo_42 ?_
          refine lv_aload_n hx hb dX1_orderTo_43 rfl (lv_at hl 1 rfl) ?_
          obtain ⟨fs26, v27, hm28, hv29, h⟩ := h
          refine k_get (ci := 2) (C := RX1) (T := TX1) (N := 3) hx hb hts in_X1_orderTo_X1 hown hK hR hm28 rfl 0 (by decide) hw1 (fun _ h9 => h9) hv29 dX1_orderTo_44 ?_
          refine lv_iload hx hb dX1_orderTo_47 (lv_at hl 4 rfl) ?_
          obtain ⟨n30, f31, hm32, hv33, h⟩ := h
          refine k_iald hx hb hK hR hm32 hv33 dX1_orderTo_49 ?_
          obtain ⟨ha, hb2⟩ := h
          refine lv_icmp_le (tgt := 55) hx hb dX1_orderTo_50 (by decide) (fun hc => ?_) (fun hc => ?_)
          · replace h := ha hc
            refine lv_iinc (v := (x4 + (1 : Int32))) (lv' := [(4, .int (x4 + (1 : Int32))), (0, .ref x0), (1, .ref x1), (2, .int x2), (3, .int x3)]) hx hb dX1_orderTo_55 hl (k := 4) rfl rfl (by decide) rfl (fun ls hl => ?_)
            refine lv_goto (tgt := 7) hx hb dX1_orderTo_58 (by decide) ?_
            exact ih _ _ _ _ _ _ _ _ _ h (lv_sub hl [1, 2, 3, 4, 0] rfl) hR hS
          · replace h := hb2 hc
            refine lv_iconst (v := (1 : Int32)) hx hb dX1_orderTo_53 (by decide) ?_
            refine lv_istore_n (lv' := [(3, .int (1 : Int32)), (0, .ref x0), (1, .ref x1), (2, .int x2), (4, .int x4)]) hx hb dX1_orderTo_54 rfl hl (by decide) rfl (fun ls hl => ?_)
            refine lv_iinc (v := (x4 + (1 : Int32))) (lv' := [(4, .int (x4 + (1 : Int32))), (3, .int (1 : Int32)), (0, .ref x0), (1, .ref x1), (2, .int x2)]) hx hb dX1_orderTo_55 hl (k := 4) rfl rfl (by decide) rfl (fun ls hl => ?_)
            refine lv_goto (tgt := 7) hx hb dX1_orderTo_58 (by decide) ?_
            exact ih _ _ _ _ _ _ _ _ _ h (lv_sub hl [2, 3, 4, 1, 0] rfl) hR hS
        · replace h := hb2 hc
          refine lv_iconst (v := (1 : Int32)) hx hb dX1_orderTo_31 (by decide) ?_
          refine lv_istore_n (lv' := [(2, .int (1 : Int32)), (0, .ref x0), (1, .ref x1), (3, .int x3), (4, .int x4)]) hx hb dX1_orderTo_32 rfl hl (by decide) rfl (fun ls hl => ?_)
          refine lv_goto (tgt := 55) hx hb dX1_orderTo_33 (by decide) ?_
          refine lv_iinc (v := (x4 + (1 : Int32))) (lv' := [(4, .int (x4 + (1 : Int32))), (2, .int (1 : Int32)), (0, .ref x0), (1, .ref x1), (3, .int x3)]) hx hb dX1_orderTo_55 hl (k := 4) rfl rfl (by decide) rfl (fun ls hl => ?_)
          refine lv_goto (tgt := 7) hx hb dX1_orderTo_58 (by decide) ?_
          exact ih _ _ _ _ _ _ _ _ _ h (lv_sub hl [2, 3, 1, 4, 0] rfl) hR hS
  have hl := lv_entry ([.ref p0, .ref p1]) (n := 5) (Nat.le_of_ble_eq_true rfl)
  rw [lg_entry_eq]
  generalize (lg_sl ([.ref p0, .ref p1]) ++ List.replicate (5 - (lg_sl ([.ref p0, .ref p1])).length) Slot.unset).toArray = ls at hl ⊢
  have hl : lv_has ls 5 [(0, .ref p0), (1, .ref p1)] := hl
  have hR0 := hR
  refine lv_iconst (v := (0 : Int32)) hx hb dX1_orderTo_0 (by decide) ?_
  refine lv_istore_n (lv' := [(2, .int (0 : Int32)), (0, .ref p0), (1, .ref p1)]) hx hb dX1_orderTo_1 rfl hl (by decide) rfl (fun ls hl => ?_)
  refine lv_iconst (v := (0 : Int32)) hx hb dX1_orderTo_2 (by decide) ?_
  refine lv_istore_n (lv' := [(3, .int (0 : Int32)), (2, .int (0 : Int32)), (0, .ref p0), (1, .ref p1)]) hx hb dX1_orderTo_3 rfl hl (by decide) rfl (fun ls hl => ?_)
  refine lv_iconst (v := (0 : Int32)) hx hb dX1_orderTo_4 (by decide) ?_
  refine lv_istore (lv' := [(4, .int (0 : Int32)), (3, .int (0 : Int32)), (2, .int (0 : Int32)), (0, .ref p0), (1, .ref p1)]) hx hb dX1_orderTo_5 hl (by decide) rfl (fun ls hl => ?_)
  obtain ⟨k1, h⟩ := h
  exact L7 k1 _ _ _ _ _ _ _ _ _ h (lv_sub hl [3, 4, 2, 1, 0] rfl) hR hS

def wp_X1_learn (G : k_G) (post : k_M → Prop) (p0 : Nat) (p1 : Int32) (M0 : k_M) : Prop :=
  (((64 : Int32) ≤ p1 →
  (∃ fs1 v2, M0 p0 = some (kO 2 fs1) ∧ fs1[2]? = some (.long v2) ∧
    (∃ fs5, M0 p0 = some (kO 2 fs5) ∧ 2 < fs5.length ∧ ∀ M6 : k_M, M6 = va_up M0 p0 (some (kO 2 (fs5.set 2 (.long (v2 ||| ((1 : Int64) <<< (((p1 - (64 : Int32))).toInt64 &&& 63))))))) →
    post M6))) ∧
  (¬ (64 : Int32) ≤ p1 →
  (∃ fs9 v10, M0 p0 = some (kO 2 fs9) ∧ fs9[1]? = some (.long v10) ∧
    (∃ fs13, M0 p0 = some (kO 2 fs13) ∧ 1 < fs13.length ∧ ∀ M14 : k_M, M14 = va_up M0 p0 (some (kO 2 (fs13.set 1 (.long (v10 ||| ((1 : Int64) <<< ((p1).toInt64 &&& 63))))))) →
    post M14))))
theorem in_X1_learn_X1 : ∀ w ∈ wsX10, w ∈ wsX1_learn := by decide +kernel
set_option maxHeartbeats 4000000 in
set_option maxRecDepth 100000 in
theorem c_X1_learn (l : Launch) (G : k_G) (M0 : k_M) (sz : Nat) (post : k_M → Prop) (p0 : Nat) (p1 : Int32) (h : wp_X1_learn G post p0 p1 M0) : Met l yX1_learn wsX1_learn ({ frames := 0, cells := 0, slots := 0, locals := 0 }) (va_Pc [.ref p0, .int p1] (kPre G M0 sz)) (va_Qv post (kB G M0 sz) (kA M0 sz)) 0 0 (kA M0 sz) := by
  refine Met.ofW (cc := cX1_learn) (maxL := 2) (ret := none) (by decide) rfl ?_
  intro p e s m args below meth c s₁ B hml hv
  obtain ⟨rfl, hsz, hR, hE⟩ := hv
  have hx := B.exec
  have hb := B.bytes
  have hr := B.returns
  have hts := atoms_spec (ws := wsX1_learn) B.pre
  have hown : s.vm.findClass RX1 = some m.cls := findClass_of_methodNamed B.named
  have hlocks := B.notSynchronized
  subst hsz
  have hK := hE.1
  have hA : ∀ q, s.heap.size ≤ q → kA M0 s.heap.size q := kA.new
  have hS : va_S (kA M0 s.heap.size) s.heap s.heap [] := va_S.rf
  have hw1 := hts (.fieldLink RX1 25 "ForkedStamps$Stamp" "knownLate" "J") (by decide +kernel)
  have hw2 := hts (.fieldLink RX1 21 "ForkedStamps$Stamp" "knownEarly" "J") (by decide +kernel)
  have hl := lv_entry ([.ref p0, .int p1]) (n := 2) (Nat.le_of_ble_eq_true rfl)
  rw [lg_entry_eq]
  generalize (lg_sl ([.ref p0, .int p1]) ++ List.replicate (2 - (lg_sl ([.ref p0, .int p1])).length) Slot.unset).toArray = ls at hl ⊢
  have hl : lv_has ls 2 [(0, .ref p0), (1, .int p1)] := hl
  have hR0 := hR
  refine lv_iload_n hx hb dX1_learn_0 rfl (lv_at hl 1 rfl) ?_
  refine lv_bipush (v := (64 : Int32)) hx hb dX1_learn_1 (by decide) ?_
  obtain ⟨ha, hb2⟩ := h
  refine lv_icmp_ge (tgt := 21) hx hb dX1_learn_3 (by decide) (fun hc => ?_) (fun hc => ?_)
  · replace h := ha hc
    refine lv_aload_n hx hb dX1_learn_21 rfl (lv_at hl 0 rfl) ?_
    refine lv_dup hx hb dX1_learn_22 rfl ?_
    obtain ⟨fs1, v2, hm3, hv4, h⟩ := h
    refine k_get (ci := 2) (C := RX1) (T := TX1) (N := 3) hx hb hts in_X1_learn_X1 hown hK hR hm3 rfl 2 (by decide) hw1 (fun _ h9 => h9) hv4 dX1_learn_23 ?_
    refine lv_lconst (v := (1 : Int64)) hx hb dX1_learn_26 (by decide) ?_
    refine lv_iload_n hx hb dX1_learn_27 rfl (lv_at hl 1 rfl) ?_
    refine lv_bipush (v := (64 : Int32)) hx hb dX1_learn_28 (by decide) ?_
    refine lv_isub hx hb dX1_learn_30 ?_
    refine lv_lshl hx hb dX1_learn_31 rfl ?_
    refine lv_lor hx hb dX1_learn_32 ?_
    obtain ⟨fs5, hm7, hk8, h⟩ := h
    replace h := h _ rfl
    refine k_put (ci := 2) (v := .long (v2 ||| ((1 : Int64) <<< (((p1 - (64 : Int32))).toInt64 &&& 63)))) (ty := .long) (C := RX1) (T := TX1) (N := 3) hx hb hts in_X1_learn_X1 tyX1 tyX1_ok nmX1 hown hK hR hS hm7 rfl 2 (by decide) hw1 (fun _ h9 => h9) rfl (by decide +kernel) rfl rfl hk8 dX1_learn_33 (fun H locs hR hS => ?_)
    exact k_retv hx hb hr hlocks hR hS h dX1_learn_36
  · replace h := hb2 hc
    refine lv_aload_n hx hb dX1_learn_6 rfl (lv_at hl 0 rfl) ?_
    refine lv_dup hx hb dX1_learn_7 rfl ?_
    obtain ⟨fs9, v10, hm11, hv12, h⟩ := h
    refine k_get (ci := 2) (C := RX1) (T := TX1) (N := 3) hx hb hts in_X1_learn_X1 hown hK hR hm11 rfl 1 (by decide) hw2 (fun _ h9 => h9) hv12 dX1_learn_8 ?_
    refine lv_lconst (v := (1 : Int64)) hx hb dX1_learn_11 (by decide) ?_
    refine lv_iload_n hx hb dX1_learn_12 rfl (lv_at hl 1 rfl) ?_
    refine lv_lshl hx hb dX1_learn_13 rfl ?_
    refine lv_lor hx hb dX1_learn_14 ?_
    obtain ⟨fs13, hm15, hk16, h⟩ := h
    replace h := h _ rfl
    refine k_put (ci := 2) (v := .long (v10 ||| ((1 : Int64) <<< ((p1).toInt64 &&& 63)))) (ty := .long) (C := RX1) (T := TX1) (N := 3) hx hb hts in_X1_learn_X1 tyX1 tyX1_ok nmX1 hown hK hR hS hm15 rfl 1 (by decide) hw2 (fun _ h9 => h9) rfl (by decide +kernel) rfl rfl hk16 dX1_learn_15 (fun H locs hR hS => ?_)
    refine lv_goto (tgt := 36) hx hb dX1_learn_18 (by decide) ?_
    exact k_retv hx hb hr hlocks hR hS h dX1_learn_36

def wp_X1_isKnown_b24 (G : k_G) (post : Int32 → k_M → Prop) (s0 : Int64) (M : k_M) : Prop :=
  ((¬ (lg_cmp (s0 &&& (1 : Int64)) (1 : Int64)) = 0 →
    post (0 : Int32) M) ∧
    ((lg_cmp (s0 &&& (1 : Int64)) (1 : Int64)) = 0 →
    post (1 : Int32) M))
def wp_X1_isKnown (G : k_G) (post : Int32 → k_M → Prop) (p0 : Nat) (p1 : Int32) (M0 : k_M) : Prop :=
  (((64 : Int32) ≤ p1 →
  (∃ fs1 v2, M0 p0 = some (kO 2 fs1) ∧ fs1[2]? = some (.long v2) ∧
    wp_X1_isKnown_b24 G post ((v2).toUInt64 >>> (((p1 - (64 : Int32))).toInt64.toUInt64 &&& Int64.toUInt64 63)).toInt64 M0)) ∧
  (¬ (64 : Int32) ≤ p1 →
  (∃ fs5 v6, M0 p0 = some (kO 2 fs5) ∧ fs5[1]? = some (.long v6) ∧
    wp_X1_isKnown_b24 G post ((v6).toUInt64 >>> ((p1).toInt64.toUInt64 &&& Int64.toUInt64 63)).toInt64 M0)))
theorem in_X1_isKnown_X1 : ∀ w ∈ wsX10, w ∈ wsX1_isKnown := by decide +kernel
set_option maxHeartbeats 4000000 in
set_option maxRecDepth 100000 in
theorem c_X1_isKnown (l : Launch) (G : k_G) (M0 : k_M) (sz : Nat) (post : Int32 → k_M → Prop) (p0 : Nat) (p1 : Int32) (h : wp_X1_isKnown G post p0 p1 M0) : Met l yX1_isKnown wsX1_isKnown ({ frames := 0, cells := 0, slots := 0, locals := 0 }) (va_Pc [.ref p0, .int p1] (kPre G M0 sz)) (va_Qi post (kB G M0 sz) (kA M0 sz)) 0 0 (kA M0 sz) := by
  refine Met.ofW (cc := cX1_isKnown) (maxL := 4) (ret := (some .boolean)) (by decide) rfl ?_
  intro p e s m args below meth c s₁ B hml hv
  obtain ⟨rfl, hsz, hR, hE⟩ := hv
  have hx := B.exec
  have hb := B.bytes
  have hr := B.returns
  have hts := atoms_spec (ws := wsX1_isKnown) B.pre
  have hown : s.vm.findClass RX1 = some m.cls := findClass_of_methodNamed B.named
  have hlocks := B.notSynchronized
  subst hsz
  have hK := hE.1
  have hA : ∀ q, s.heap.size ≤ q → kA M0 s.heap.size q := kA.new
  have hS : va_S (kA M0 s.heap.size) s.heap s.heap [] := va_S.rf
  have hw1 := hts (.fieldLink RX1 25 "ForkedStamps$Stamp" "knownLate" "J") (by decide +kernel)
  have hw2 := hts (.fieldLink RX1 21 "ForkedStamps$Stamp" "knownEarly" "J") (by decide +kernel)
  have b24 : ∀ (s0 : Int64) (M : k_M) (H : Heap) (locs : List Loc) (ls : Array Slot), wp_X1_isKnown_b24 G post s0 M → lv_has ls 4 [] → kR G M (kA M0 s.heap.size) H → va_S (kA M0 s.heap.size) s.heap H locs → W p l e (headSpec wsX1_isKnown ({ frames := 0, cells := 0, slots := 0, locals := 0 })).room s m ([.ref p0, .int p1] : List Value).toArray below meth c H locs 0 0 (MQ below (va_Qi post (kB G M0 s.heap.size) (kA M0 s.heap.size)) ([.ref p0, .int p1] : List Value).toArray s 0 0 (kA M0 s.heap.size)) (F0 m 24 ls [.long s0]) := by
    intro s0 M H locs ls h hl hR hS
    refine lv_lstore_n (lv' := [(2, .long s0)]) hx hb dX1_isKnown_24 rfl hl (by decide) rfl (fun ls hl => ?_)
    refine lv_lload_n hx hb dX1_isKnown_25 rfl (lv_at hl 0 rfl) ?_
    refine lv_lconst (v := (1 : Int64)) hx hb dX1_isKnown_26 (by decide) ?_
    refine lv_land hx hb dX1_isKnown_27 ?_
    refine lv_lconst (v := (1 : Int64)) hx hb dX1_isKnown_28 (by decide) ?_
    refine W.lcmp hx hb dX1_isKnown_29 ?_
    obtain ⟨ha, hb2⟩ := h
    refine lv_if_ne (tgt := 37) hx hb dX1_isKnown_30 (by decide) (fun hc => ?_) (fun hc => ?_)
    · replace h := ha hc
      refine lv_iconst (v := (0 : Int32)) hx hb dX1_isKnown_37 (by decide) ?_
      exact k_reti hx hb hr hlocks (by decide) hR hS h dX1_isKnown_38
    · replace h := hb2 hc
      refine lv_iconst (v := (1 : Int32)) hx hb dX1_isKnown_33 (by decide) ?_
      refine lv_goto (tgt := 38) hx hb dX1_isKnown_34 (by decide) ?_
      exact k_reti hx hb hr hlocks (by decide) hR hS h dX1_isKnown_38
  have hl := lv_entry ([.ref p0, .int p1]) (n := 4) (Nat.le_of_ble_eq_true rfl)
  rw [lg_entry_eq]
  generalize (lg_sl ([.ref p0, .int p1]) ++ List.replicate (4 - (lg_sl ([.ref p0, .int p1])).length) Slot.unset).toArray = ls at hl ⊢
  have hl : lv_has ls 4 [(0, .ref p0), (1, .int p1)] := hl
  have hR0 := hR
  refine lv_iload_n hx hb dX1_isKnown_0 rfl (lv_at hl 1 rfl) ?_
  refine lv_bipush (v := (64 : Int32)) hx hb dX1_isKnown_1 (by decide) ?_
  obtain ⟨ha, hb2⟩ := h
  refine lv_icmp_ge (tgt := 15) hx hb dX1_isKnown_3 (by decide) (fun hc => ?_) (fun hc => ?_)
  · replace h := ha hc
    refine lv_aload_n hx hb dX1_isKnown_15 rfl (lv_at hl 0 rfl) ?_
    obtain ⟨fs1, v2, hm3, hv4, h⟩ := h
    refine k_get (ci := 2) (C := RX1) (T := TX1) (N := 3) hx hb hts in_X1_isKnown_X1 hown hK hR hm3 rfl 2 (by decide) hw1 (fun _ h9 => h9) hv4 dX1_isKnown_16 ?_
    refine lv_iload_n hx hb dX1_isKnown_19 rfl (lv_at hl 1 rfl) ?_
    refine lv_bipush (v := (64 : Int32)) hx hb dX1_isKnown_20 (by decide) ?_
    refine lv_isub hx hb dX1_isKnown_22 ?_
    refine lv_lushr hx hb dX1_isKnown_23 rfl ?_
    exact b24 _ _ _ _ _ h (lv_sub hl [] rfl) hR hS
  · replace h := hb2 hc
    refine lv_aload_n hx hb dX1_isKnown_6 rfl (lv_at hl 0 rfl) ?_
    obtain ⟨fs5, v6, hm7, hv8, h⟩ := h
    refine k_get (ci := 2) (C := RX1) (T := TX1) (N := 3) hx hb hts in_X1_isKnown_X1 hown hK hR hm7 rfl 1 (by decide) hw2 (fun _ h9 => h9) hv8 dX1_isKnown_7 ?_
    refine lv_iload_n hx hb dX1_isKnown_10 rfl (lv_at hl 1 rfl) ?_
    refine lv_lushr hx hb dX1_isKnown_11 rfl ?_
    refine lv_goto (tgt := 24) hx hb dX1_isKnown_12 (by decide) ?_
    exact b24 _ _ _ _ _ h (lv_sub hl [] rfl) hR hS

def wp_X1_knownCount (G : k_G) (post : Int32 → k_M → Prop) (p0 : Nat) (M0 : k_M) : Prop :=
  (∃ fs1 v2, M0 p0 = some (kO 2 fs1) ∧ fs1[1]? = some (.long v2) ∧
  wp_J13_bitCount_95d88 G (fun r5 M6 =>
  (∃ fs8 v9, M6 p0 = some (kO 2 fs8) ∧ fs8[2]? = some (.long v9) ∧
  wp_J13_bitCount_95d88 G (fun r12 M13 =>
  post (r5 + r12) M13) v9 M6)) v2 M0)
theorem in_X1_knownCount_X1 : ∀ w ∈ wsX10, w ∈ wsX1_knownCount := by decide +kernel
set_option maxHeartbeats 4000000 in
set_option maxRecDepth 100000 in
theorem c_X1_knownCount (l : Launch) (G : k_G) (M0 : k_M) (sz : Nat) (post : Int32 → k_M → Prop) (p0 : Nat) (h : wp_X1_knownCount G post p0 M0) : Met l yX1_knownCount wsX1_knownCount ({ frames := 1, cells := 0, slots := 0, locals := 21 }) (va_Pc [.ref p0] (kPre G M0 sz)) (va_Qi post (kB G M0 sz) (kA M0 sz)) 0 0 (kA M0 sz) := by
  refine Met.ofW (cc := cX1_knownCount) (maxL := 1) (ret := (some .int)) (by decide) rfl ?_
  intro p e s m args below meth c s₁ B hml hv
  obtain ⟨rfl, hsz, hR, hE⟩ := hv
  have hx := B.exec
  have hb := B.bytes
  have hr := B.returns
  have hts := atoms_spec (ws := wsX1_knownCount) B.pre
  have hown : s.vm.findClass RX1 = some m.cls := findClass_of_methodNamed B.named
  have hlocks := B.notSynchronized
  subst hsz
  have hK := hE.1
  have hA : ∀ q, s.heap.size ≤ q → kA M0 s.heap.size q := kA.new
  have hS : va_S (kA M0 s.heap.size) s.heap s.heap [] := va_S.rf
  have hw1 := hts (.fieldLink RX1 21 "ForkedStamps$Stamp" "knownEarly" "J") (by decide +kernel)
  have hw2 := hts (.fieldLink RX1 25 "ForkedStamps$Stamp" "knownLate" "J") (by decide +kernel)
  have hl := lv_entry ([.ref p0]) (n := 1) (Nat.le_of_ble_eq_true rfl)
  rw [lg_entry_eq]
  generalize (lg_sl ([.ref p0]) ++ List.replicate (1 - (lg_sl ([.ref p0])).length) Slot.unset).toArray = ls at hl ⊢
  have hl : lv_has ls 1 [(0, .ref p0)] := hl
  have hR0 := hR
  refine lv_aload_n hx hb dX1_knownCount_0 rfl (lv_at hl 0 rfl) ?_
  obtain ⟨fs1, v2, hm3, hv4, h⟩ := h
  refine k_get (ci := 2) (C := RX1) (T := TX1) (N := 3) hx hb hts in_X1_knownCount_X1 hown hK hR hm3 rfl 1 (by decide) hw1 (fun _ h9 => h9) hv4 dX1_knownCount_1 ?_
  refine k_calli0 (va_runS (As := [.long v2]) (rest := []) ⟨hx, hb, hml, hown, hts⟩ (c_J13_bitCount_95d88 l G _ _ _ v2 h) (va_cwS 1 hts gX1_knownCount_J13_bitCount_95d88 rfl rfl rfl (by decide +kernel) ⟨Nat.le_of_ble_eq_true rfl, Nat.le_of_ble_eq_true rfl⟩) (k_preS hR hS hA hE) rfl rfl hl.1 rfl (lv_room (Nat.le_of_ble_eq_true rfl)) dX1_knownCount_4 ⟨Nat.zero_le _, Nat.zero_le _⟩) hR hS hA (fun r5 M6 H locs h hR hS => ?_)
  refine lv_aload_n hx hb dX1_knownCount_7 rfl (lv_at hl 0 rfl) ?_
  obtain ⟨fs8, v9, hm10, hv11, h⟩ := h
  refine k_get (ci := 2) (C := RX1) (T := TX1) (N := 3) hx hb hts in_X1_knownCount_X1 hown hK hR hm10 rfl 2 (by decide) hw2 (fun _ h9 => h9) hv11 dX1_knownCount_8 ?_
  refine k_calli0 (va_runS (As := [.long v9]) (rest := [.int r5]) ⟨hx, hb, hml, hown, hts⟩ (c_J13_bitCount_95d88 l G _ _ _ v9 h) (va_cwS 1 hts gX1_knownCount_J13_bitCount_95d88 rfl rfl rfl (by decide +kernel) ⟨Nat.le_of_ble_eq_true rfl, Nat.le_of_ble_eq_true rfl⟩) (k_preS hR hS hA hE) rfl rfl hl.1 rfl (lv_room (Nat.le_of_ble_eq_true rfl)) dX1_knownCount_11 ⟨Nat.zero_le _, Nat.zero_le _⟩) hR hS hA (fun r12 M13 H locs h hR hS => ?_)
  refine lv_iadd hx hb dX1_knownCount_14 ?_
  exact k_reti hx hb hr hlocks rfl hR hS h dX1_knownCount_15

def wp_X1_knownBeyond (G : k_G) (post : Int32 → k_M → Prop) (p0 : Nat) (p1 : Nat) (M0 : k_M) : Prop :=
  (∃ fs1 v2, M0 p0 = some (kO 2 fs1) ∧ fs1[1]? = some (.long v2) ∧
  (∃ fs5 v6, M0 p1 = some (kO 2 fs5) ∧ fs5[1]? = some (.long v6) ∧
  wp_J13_bitCount_95d88 G (fun r9 M10 =>
  (∃ fs12 v13, M10 p0 = some (kO 2 fs12) ∧ fs12[2]? = some (.long v13) ∧
  (∃ fs16 v17, M10 p1 = some (kO 2 fs16) ∧ fs16[2]? = some (.long v17) ∧
  wp_J13_bitCount_95d88 G (fun r20 M21 =>
  post (r9 + r20) M21) (v13 &&& (v17 ^^^ (-1 : Int64))) M10))) (v2 &&& (v6 ^^^ (-1 : Int64))) M0))
theorem in_X1_knownBeyond_X1 : ∀ w ∈ wsX10, w ∈ wsX1_knownBeyond := by decide +kernel
set_option maxHeartbeats 4000000 in
set_option maxRecDepth 100000 in
theorem c_X1_knownBeyond (l : Launch) (G : k_G) (M0 : k_M) (sz : Nat) (post : Int32 → k_M → Prop) (p0 : Nat) (p1 : Nat) (h : wp_X1_knownBeyond G post p0 p1 M0) : Met l yX1_knownBeyond wsX1_knownBeyond ({ frames := 1, cells := 0, slots := 0, locals := 21 }) (va_Pc [.ref p0, .ref p1] (kPre G M0 sz)) (va_Qi post (kB G M0 sz) (kA M0 sz)) 0 0 (kA M0 sz) := by
  refine Met.ofW (cc := cX1_knownBeyond) (maxL := 2) (ret := (some .int)) (by decide) rfl ?_
  intro p e s m args below meth c s₁ B hml hv
  obtain ⟨rfl, hsz, hR, hE⟩ := hv
  have hx := B.exec
  have hb := B.bytes
  have hr := B.returns
  have hts := atoms_spec (ws := wsX1_knownBeyond) B.pre
  have hown : s.vm.findClass RX1 = some m.cls := findClass_of_methodNamed B.named
  have hlocks := B.notSynchronized
  subst hsz
  have hK := hE.1
  have hA : ∀ q, s.heap.size ≤ q → kA M0 s.heap.size q := kA.new
  have hS : va_S (kA M0 s.heap.size) s.heap s.heap [] := va_S.rf
  have hw1 := hts (.fieldLink RX1 21 "ForkedStamps$Stamp" "knownEarly" "J") (by decide +kernel)
  have hw2 := hts (.constantLong RX1 51 (-1)) (by decide +kernel)
  have hw3 := hts (.fieldLink RX1 25 "ForkedStamps$Stamp" "knownLate" "J") (by decide +kernel)
  have hl := lv_entry ([.ref p0, .ref p1]) (n := 2) (Nat.le_of_ble_eq_true rfl)
  rw [lg_entry_eq]
  generalize (lg_sl ([.ref p0, .ref p1]) ++ List.replicate (2 - (lg_sl ([.ref p0, .ref p1])).length) Slot.unset).toArray = ls at hl ⊢
  have hl : lv_has ls 2 [(0, .ref p0), (1, .ref p1)] := hl
  have hR0 := hR
  refine lv_aload_n hx hb dX1_knownBeyond_0 rfl (lv_at hl 0 rfl) ?_
  obtain ⟨fs1, v2, hm3, hv4, h⟩ := h
  refine k_get (ci := 2) (C := RX1) (T := TX1) (N := 3) hx hb hts in_X1_knownBeyond_X1 hown hK hR hm3 rfl 1 (by decide) hw1 (fun _ h9 => h9) hv4 dX1_knownBeyond_1 ?_
  refine lv_aload_n hx hb dX1_knownBeyond_4 rfl (lv_at hl 1 rfl) ?_
  obtain ⟨fs5, v6, hm7, hv8, h⟩ := h
  refine k_get (ci := 2) (C := RX1) (T := TX1) (N := 3) hx hb hts in_X1_knownBeyond_X1 hown hK hR hm7 rfl 1 (by decide) hw1 (fun _ h9 => h9) hv8 dX1_knownBeyond_5 ?_
  refine lv_ldc2 (v := (-1 : Int64)) hx hb hown hw2 dX1_knownBeyond_8 ?_
  refine lv_lxor hx hb dX1_knownBeyond_11 ?_
  refine lv_land hx hb dX1_knownBeyond_12 ?_
  refine k_calli0 (va_runS (As := [.long (v2 &&& (v6 ^^^ (-1 : Int64)))]) (rest := []) ⟨hx, hb, hml, hown, hts⟩ (c_J13_bitCount_95d88 l G _ _ _ (v2 &&& (v6 ^^^ (-1 : Int64))) h) (va_cwS 1 hts gX1_knownBeyond_J13_bitCount_95d88 rfl rfl rfl (by decide +kernel) ⟨Nat.le_of_ble_eq_true rfl, Nat.le_of_ble_eq_true rfl⟩) (k_preS hR hS hA hE) rfl rfl hl.1 rfl (lv_room (Nat.le_of_ble_eq_true rfl)) dX1_knownBeyond_13 ⟨Nat.zero_le _, Nat.zero_le _⟩) hR hS hA (fun r9 M10 H locs h hR hS => ?_)
  refine lv_aload_n hx hb dX1_knownBeyond_16 rfl (lv_at hl 0 rfl) ?_
  obtain ⟨fs12, v13, hm14, hv15, h⟩ := h
  refine k_get (ci := 2) (C := RX1) (T := TX1) (N := 3) hx hb hts in_X1_knownBeyond_X1 hown hK hR hm14 rfl 2 (by decide) hw3 (fun _ h9 => h9) hv15 dX1_knownBeyond_17 ?_
  refine lv_aload_n hx hb dX1_knownBeyond_20 rfl (lv_at hl 1 rfl) ?_
  obtain ⟨fs16, v17, hm18, hv19, h⟩ := h
  refine k_get (ci := 2) (C := RX1) (T := TX1) (N := 3) hx hb hts in_X1_knownBeyond_X1 hown hK hR hm18 rfl 2 (by decide) hw3 (fun _ h9 => h9) hv19 dX1_knownBeyond_21 ?_
  refine lv_ldc2 (v := (-1 : Int64)) hx hb hown hw2 dX1_knownBeyond_24 ?_
  refine lv_lxor hx hb dX1_knownBeyond_27 ?_
  refine lv_land hx hb dX1_knownBeyond_28 ?_
  refine k_calli0 (va_runS (As := [.long (v13 &&& (v17 ^^^ (-1 : Int64)))]) (rest := [.int r9]) ⟨hx, hb, hml, hown, hts⟩ (c_J13_bitCount_95d88 l G _ _ _ (v13 &&& (v17 ^^^ (-1 : Int64))) h) (va_cwS 1 hts gX1_knownBeyond_J13_bitCount_95d88 rfl rfl rfl (by decide +kernel) ⟨Nat.le_of_ble_eq_true rfl, Nat.le_of_ble_eq_true rfl⟩) (k_preS hR hS hA hE) rfl rfl hl.1 rfl (lv_room (Nat.le_of_ble_eq_true rfl)) dX1_knownBeyond_29 ⟨Nat.zero_le _, Nat.zero_le _⟩) hR hS hA (fun r20 M21 H locs h hR hS => ?_)
  refine lv_iadd hx hb dX1_knownBeyond_32 ?_
  exact k_reti hx hb hr hlocks rfl hR hS h dX1_knownBeyond_33

def wp_X1_latestKnown_L3 (G : k_G) (post : Int32 → k_M → Prop) : Nat → Nat → Int32 → k_M → Prop
  | 0 => fun _ _ _ => False
  | n + 1 => fun x0 x1 M =>
  ((x1 < 0 →
      post (-6 : Int32) M) ∧
      (¬ x1 < 0 →
      (∃ fs5, M x0 = some (kO 2 fs5) ∧ wp_X1_isKnown G (fun r2 M3 =>
        ((r2 = 0 →
        (wp_X1_latestKnown_L3 G post n) x0 (x1 + (-1 : Int32)) M3) ∧
        (¬ r2 = 0 →
        post x1 M3))) x0 x1 M)))
def wp_X1_latestKnown (G : k_G) (post : Int32 → k_M → Prop) (p0 : Nat) (M0 : k_M) : Prop :=
  ∃ k1, wp_X1_latestKnown_L3 G post k1 p0 (119 : Int32) M0
set_option maxHeartbeats 4000000 in
set_option maxRecDepth 100000 in
theorem c_X1_latestKnown (l : Launch) (G : k_G) (M0 : k_M) (sz : Nat) (post : Int32 → k_M → Prop) (p0 : Nat) (h : wp_X1_latestKnown G post p0 M0) : Met l yX1_latestKnown wsX1_latestKnown ({ frames := 1, cells := 0, slots := 0, locals := 23 }) (va_Pc [.ref p0] (kPre G M0 sz)) (va_Qi post (kB G M0 sz) (kA M0 sz)) 0 0 (kA M0 sz) := by
  refine Met.ofW (cc := cX1_latestKnown) (maxL := 2) (ret := (some .int)) (by decide) rfl ?_
  intro p e s m args below meth c s₁ B hml hv
  obtain ⟨rfl, hsz, hR, hE⟩ := hv
  have hx := B.exec
  have hb := B.bytes
  have hr := B.returns
  have hts := atoms_spec (ws := wsX1_latestKnown) B.pre
  have hown : s.vm.findClass RX1 = some m.cls := findClass_of_methodNamed B.named
  have hlocks := B.notSynchronized
  subst hsz
  have hK := hE.1
  have hA : ∀ q, s.heap.size ≤ q → kA M0 s.heap.size q := kA.new
  have hS : va_S (kA M0 s.heap.size) s.heap s.heap [] := va_S.rf
  have L3 : ∀ (n : Nat), ∀ (x0 : Nat) (x1 : Int32) (M : k_M) (H : Heap) (locs : List Loc) (ls : Array Slot), wp_X1_latestKnown_L3 G post n x0 x1 M → lv_has ls 2 [(0, .ref x0), (1, .int x1)] → kR G M (kA M0 s.heap.size) H → va_S (kA M0 s.heap.size) s.heap H locs → W p l e (headSpec wsX1_latestKnown ({ frames := 1, cells := 0, slots := 0, locals := 23 })).room s m ([.ref p0] : List Value).toArray below meth c H locs 0 0 (MQ below (va_Qi post (kB G M0 s.heap.size) (kA M0 s.heap.size)) ([.ref p0] : List Value).toArray s 0 0 (kA M0 s.heap.size)) (F0 m 3 ls []) := by
    intro n
    induction n with
    | zero =>
      intro  x0 x1 M H locs ls h
      exact False.elim h
    | succ n ih =>
      intro  x0 x1 M H locs ls h hl hR hS
      refine lv_iload_n hx hb dX1_latestKnown_3 rfl (lv_at hl 1 rfl) ?_
      obtain ⟨ha, hb2⟩ := h
      refine lv_if_lt (tgt := 23) hx hb dX1_latestKnown_4 (by decide) (fun hc => ?_) (fun hc => ?_)
      · replace h := ha hc
        refine lv_bipush (v := (-6 : Int32)) hx hb dX1_latestKnown_23 (by decide) ?_
        exact k_reti hx hb hr hlocks rfl hR hS h dX1_latestKnown_25
      · replace h := hb2 hc
        refine lv_aload_n hx hb dX1_latestKnown_7 rfl (lv_at hl 0 rfl) ?_
        refine lv_iload_n hx hb dX1_latestKnown_8 rfl (lv_at hl 1 rfl) ?_
        obtain ⟨fs5, hm4, h⟩ := h
        refine k_calli0 (va_runV (As := [.int x1]) (rest := []) ⟨hx, hb, hml, hown, hts⟩ (c_X1_isKnown l G _ _ _ x0 x1 h) (cwV 1 hts gX1_latestKnown_X1_isKnown rfl rfl rfl (by decide +kernel) ⟨Nat.le_of_ble_eq_true rfl, Nat.le_of_ble_eq_true rfl⟩) (k_preV (q := (RX1, TX1, 3)) hm4 rfl hR hS hA hE) rfl rfl hl.1 rfl (lv_room (Nat.le_of_ble_eq_true rfl)) dX1_latestKnown_9 ⟨Nat.zero_le _, Nat.zero_le _⟩) hR hS hA (fun r2 M3 H locs h hR hS => ?_)
        obtain ⟨ha, hb2⟩ := h
        refine lv_if_eq (tgt := 17) hx hb dX1_latestKnown_12 (by decide) (fun hc => ?_) (fun hc => ?_)
        · replace h := ha hc
          refine lv_iinc (v := (x1 + (-1 : Int32))) (lv' := [(1, .int (x1 + (-1 : Int32))), (0, .ref x0)]) hx hb dX1_latestKnown_17 hl (k := 1) rfl rfl (by decide) rfl (fun ls hl => ?_)
          refine lv_goto (tgt := 3) hx hb dX1_latestKnown_20 (by decide) ?_
          exact ih _ _ _ _ _ _ h (lv_sub hl [1, 0] rfl) hR hS
        · replace h := hb2 hc
          refine lv_iload_n hx hb dX1_latestKnown_15 rfl (lv_at hl 1 rfl) ?_
          exact k_reti hx hb hr hlocks rfl hR hS h dX1_latestKnown_16
  have hl := lv_entry ([.ref p0]) (n := 2) (Nat.le_of_ble_eq_true rfl)
  rw [lg_entry_eq]
  generalize (lg_sl ([.ref p0]) ++ List.replicate (2 - (lg_sl ([.ref p0])).length) Slot.unset).toArray = ls at hl ⊢
  have hl : lv_has ls 2 [(0, .ref p0)] := hl
  have hR0 := hR
  refine lv_bipush (v := (119 : Int32)) hx hb dX1_latestKnown_0 (by decide) ?_
  refine lv_istore_n (lv' := [(1, .int (119 : Int32)), (0, .ref p0)]) hx hb dX1_latestKnown_2 rfl hl (by decide) rfl (fun ls hl => ?_)
  obtain ⟨k1, h⟩ := h
  exact L3 k1 _ _ _ _ _ _ h (lv_sub hl [1, 0] rfl) hR hS

def wp_X1_isLeaf_L4 (G : k_G) (post : Int32 → k_M → Prop) : Nat → Nat → Int32 → Int32 → Int32 → k_M → Prop
  | 0 => fun _ _ _ _ _ => False
  | n + 1 => fun x0 x1 x2 x3 M =>
  (((x1 + x2) ≤ x3 →
      post (1 : Int32) M) ∧
      (¬ (x1 + x2) ≤ x3 →
      (∃ n2 f3, M x0 = some (kI G n2 f3) ∧ vp_in x3 n2 ∧
        (∃ n6 f7, M x0 = some (kI G n6 f7) ∧ vp_in x1 n6 ∧
        (((f3 (x3).toNatClampNeg) = (f7 (x1).toNatClampNeg) →
        (wp_X1_isLeaf_L4 G post n) x0 x1 x2 (x3 + (1 : Int32)) M) ∧
        (¬ (f3 (x3).toNatClampNeg) = (f7 (x1).toNatClampNeg) →
        post (0 : Int32) M))))))
def wp_X1_isLeaf (G : k_G) (post : Int32 → k_M → Prop) (p0 : Nat) (p1 : Int32) (p2 : Int32) (M0 : k_M) : Prop :=
  ∃ k1, wp_X1_isLeaf_L4 G post k1 p0 p1 p2 (p1 + (1 : Int32)) M0
set_option maxHeartbeats 4000000 in
set_option maxRecDepth 100000 in
theorem c_X1_isLeaf (l : Launch) (G : k_G) (M0 : k_M) (sz : Nat) (post : Int32 → k_M → Prop) (p0 : Nat) (p1 : Int32) (p2 : Int32) (h : wp_X1_isLeaf G post p0 p1 p2 M0) : Met l yX1_isLeaf wsX1_isLeaf ({ frames := 0, cells := 0, slots := 0, locals := 0 }) (va_Pc [.ref p0, .int p1, .int p2] (kPre G M0 sz)) (va_Qi post (kB G M0 sz) (kA M0 sz)) 0 0 (kA M0 sz) := by
  refine Met.ofW (cc := cX1_isLeaf) (maxL := 4) (ret := (some .boolean)) (by decide) rfl ?_
  intro p e s m args below meth c s₁ B hml hv
  obtain ⟨rfl, hsz, hR, hE⟩ := hv
  have hx := B.exec
  have hb := B.bytes
  have hr := B.returns
  have hts := atoms_spec (ws := wsX1_isLeaf) B.pre
  have hown : s.vm.findClass RX1 = some m.cls := findClass_of_methodNamed B.named
  have hlocks := B.notSynchronized
  subst hsz
  have hK := hE.1
  have hA : ∀ q, s.heap.size ≤ q → kA M0 s.heap.size q := kA.new
  have hS : va_S (kA M0 s.heap.size) s.heap s.heap [] := va_S.rf
  have L4 : ∀ (n : Nat), ∀ (x0 : Nat) (x1 : Int32) (x2 : Int32) (x3 : Int32) (M : k_M) (H : Heap) (locs : List Loc) (ls : Array Slot), wp_X1_isLeaf_L4 G post n x0 x1 x2 x3 M → lv_has ls 4 [(0, .ref x0), (1, .int x1), (2, .int x2), (3, .int x3)] → kR G M (kA M0 s.heap.size) H → va_S (kA M0 s.heap.size) s.heap H locs → W p l e (headSpec wsX1_isLeaf ({ frames := 0, cells := 0, slots := 0, locals := 0 })).room s m ([.ref p0, .int p1, .int p2] : List Value).toArray below meth c H locs 0 0 (MQ below (va_Qi post (kB G M0 s.heap.size) (kA M0 s.heap.size)) ([.ref p0, .int p1, .int p2] : List Value).toArray s 0 0 (kA M0 s.heap.size)) (F0 m 4 ls []) := by
    intro n
    induction n with
    | zero =>
      intro  x0 x1 x2 x3 M H locs ls h
      exact False.elim h
    | succ n ih =>
      intro  x0 x1 x2 x3 M H locs ls h hl hR hS
      refine lv_iload_n hx hb dX1_isLeaf_4 rfl (lv_at hl 3 rfl) ?_
      refine lv_iload_n hx hb dX1_isLeaf_5 rfl (lv_at hl 1 rfl) ?_
      refine lv_iload_n hx hb dX1_isLeaf_6 rfl (lv_at hl 2 rfl) ?_
      refine lv_iadd hx hb dX1_isLeaf_7 ?_
      obtain ⟨ha, hb2⟩ := h
      refine lv_icmp_ge (tgt := 28) hx hb dX1_isLeaf_8 (by decide) (fun hc => ?_) (fun hc => ?_)
      · replace h := ha hc
        refine lv_iconst (v := (1 : Int32)) hx hb dX1_isLeaf_28 (by decide) ?_
        exact k_reti hx hb hr hlocks (by decide) hR hS h dX1_isLeaf_29
      · replace h := hb2 hc
        refine lv_aload_n hx hb dX1_isLeaf_11 rfl (lv_at hl 0 rfl) ?_
        refine lv_iload_n hx hb dX1_isLeaf_12 rfl (lv_at hl 3 rfl) ?_
        obtain ⟨n2, f3, hm4, hv5, h⟩ := h
        refine k_iald hx hb hK hR hm4 hv5 dX1_isLeaf_13 ?_
        refine lv_aload_n hx hb dX1_isLeaf_14 rfl (lv_at hl 0 rfl) ?_
        refine lv_iload_n hx hb dX1_isLeaf_15 rfl (lv_at hl 1 rfl) ?_
        obtain ⟨n6, f7, hm8, hv9, h⟩ := h
        refine k_iald hx hb hK hR hm8 hv9 dX1_isLeaf_16 ?_
        obtain ⟨ha, hb2⟩ := h
        refine lv_icmp_eq (tgt := 22) hx hb dX1_isLeaf_17 (by decide) (fun hc => ?_) (fun hc => ?_)
        · replace h := ha hc
          refine lv_iinc (v := (x3 + (1 : Int32))) (lv' := [(3, .int (x3 + (1 : Int32))), (0, .ref x0), (1, .int x1), (2, .int x2)]) hx hb dX1_isLeaf_22 hl (k := 3) rfl rfl (by decide) rfl (fun ls hl => ?_)
          refine lv_goto (tgt := 4) hx hb dX1_isLeaf_25 (by decide) ?_
          exact ih _ _ _ _ _ _ _ _ h (lv_sub hl [1, 2, 3, 0] rfl) hR hS
        · replace h := hb2 hc
          refine lv_iconst (v := (0 : Int32)) hx hb dX1_isLeaf_20 (by decide) ?_
          exact k_reti hx hb hr hlocks (by decide) hR hS h dX1_isLeaf_21
  have hl := lv_entry ([.ref p0, .int p1, .int p2]) (n := 4) (Nat.le_of_ble_eq_true rfl)
  rw [lg_entry_eq]
  generalize (lg_sl ([.ref p0, .int p1, .int p2]) ++ List.replicate (4 - (lg_sl ([.ref p0, .int p1, .int p2])).length) Slot.unset).toArray = ls at hl ⊢
  have hl : lv_has ls 4 [(0, .ref p0), (1, .int p1), (2, .int p2)] := hl
  have hR0 := hR
  refine lv_iload_n hx hb dX1_isLeaf_0 rfl (lv_at hl 1 rfl) ?_
  refine lv_iconst (v := (1 : Int32)) hx hb dX1_isLeaf_1 (by decide) ?_
  refine lv_iadd hx hb dX1_isLeaf_2 ?_
  refine lv_istore_n (lv' := [(3, .int (p1 + (1 : Int32))), (0, .ref p0), (1, .int p1), (2, .int p2)]) hx hb dX1_isLeaf_3 rfl hl (by decide) rfl (fun ls hl => ?_)
  obtain ⟨k1, h⟩ := h
  exact L4 k1 _ _ _ _ _ _ _ _ h (lv_sub hl [1, 2, 3, 0] rfl) hR hS

def wp_X1_knotsOfRow_v0 (G : k_G) (post : Int32 → k_M → Prop) (p0 : Nat) (p1 : Int32) (p2 : Int32) (M0 : k_M) : Prop :=
  ((p2 ≤ (1 : Int32) →
  post (0 : Int32) M0) ∧
  (¬ p2 ≤ (1 : Int32) →
  wp_X1_isLeaf G (fun r1 M2 =>
    ((r1 = 0 →
    False) ∧
    (¬ r1 = 0 →
    post (0 : Int32) M2))) p0 p1 p2 M0))
set_option maxHeartbeats 4000000 in
set_option maxRecDepth 100000 in
theorem c_X1_knotsOfRow_v0 (l : Launch) (G : k_G) (M0 : k_M) (sz : Nat) (post : Int32 → k_M → Prop) (p0 : Nat) (p1 : Int32) (p2 : Int32) (h : wp_X1_knotsOfRow_v0 G post p0 p1 p2 M0) : Met l yX1_knotsOfRow wsX1_knotsOfRow ({ frames := 1, cells := 0, slots := 0, locals := 23 }) (va_Pc [.ref p0, .int p1, .int p2] (kPre G M0 sz)) (va_Qi post (kB G M0 sz) (kA M0 sz)) 0 0 (kA M0 sz) := by
  refine Met.ofW (cc := cX1_knotsOfRow) (maxL := 4) (ret := (some .int)) (by decide) rfl ?_
  intro p e s m args below meth c s₁ B hml hv
  obtain ⟨rfl, hsz, hR, hE⟩ := hv
  have hx := B.exec
  have hb := B.bytes
  have hr := B.returns
  have hts := atoms_spec (ws := wsX1_knotsOfRow) B.pre
  have hown : s.vm.findClass RX1 = some m.cls := findClass_of_methodNamed B.named
  have hlocks := B.notSynchronized
  subst hsz
  have hK := hE.1
  have hA : ∀ q, s.heap.size ≤ q → kA M0 s.heap.size q := kA.new
  have hS : va_S (kA M0 s.heap.size) s.heap s.heap [] := va_S.rf
  have hl := lv_entry ([.ref p0, .int p1, .int p2]) (n := 4) (Nat.le_of_ble_eq_true rfl)
  rw [lg_entry_eq]
  generalize (lg_sl ([.ref p0, .int p1, .int p2]) ++ List.replicate (4 - (lg_sl ([.ref p0, .int p1, .int p2])).length) Slot.unset).toArray = ls at hl ⊢
  have hl : lv_has ls 4 [(0, .ref p0), (1, .int p1), (2, .int p2)] := hl
  have hR0 := hR
  refine lv_iload_n hx hb dX1_knotsOfRow_0 rfl (lv_at hl 2 rfl) ?_
  refine lv_iconst (v := (1 : Int32)) hx hb dX1_knotsOfRow_1 (by decide) ?_
  obtain ⟨ha, hb2⟩ := h
  refine lv_icmp_le (tgt := 14) hx hb dX1_knotsOfRow_2 (by decide) (fun hc => ?_) (fun hc => ?_)
  · replace h := ha hc
    refine lv_iconst (v := (0 : Int32)) hx hb dX1_knotsOfRow_14 (by decide) ?_
    exact k_reti hx hb hr hlocks rfl hR hS h dX1_knotsOfRow_15
  · replace h := hb2 hc
    refine lv_aload_n hx hb dX1_knotsOfRow_5 rfl (lv_at hl 0 rfl) ?_
    refine lv_iload_n hx hb dX1_knotsOfRow_6 rfl (lv_at hl 1 rfl) ?_
    refine lv_iload_n hx hb dX1_knotsOfRow_7 rfl (lv_at hl 2 rfl) ?_
    refine k_calli0 (va_runS (As := [.ref p0, .int p1, .int p2]) (rest := []) ⟨hx, hb, hml, hown, hts⟩ (c_X1_isLeaf l G _ _ _ p0 p1 p2 h) (va_cwS 3 hts gX1_knotsOfRow_X1_isLeaf rfl rfl rfl (by decide +kernel) ⟨Nat.le_of_ble_eq_true rfl, Nat.le_of_ble_eq_true rfl⟩) (k_preS hR hS hA hE) rfl rfl hl.1 rfl (lv_room (Nat.le_of_ble_eq_true rfl)) dX1_knotsOfRow_8 ⟨Nat.zero_le _, Nat.zero_le _⟩) hR hS hA (fun r1 M2 H locs h hR hS => ?_)
    obtain ⟨ha, hb2⟩ := h
    refine lv_if_eq (tgt := 16) hx hb dX1_knotsOfRow_11 (by decide) (fun hc => ?_) (fun hc => ?_)
    · replace h := ha hc
      refine lv_iload_n hx hb dX1_knotsOfRow_16 rfl (lv_at hl 2 rfl) ?_
      refine lv_iconst (v := (2 : Int32)) hx hb dX1_knotsOfRow_17 (by decide) ?_
      refine lv_idiv hx hb dX1_knotsOfRow_18 (by decide) ?_
      refine lv_istore_n (lv' := [(3, .int (p2 / (2 : Int32))), (0, .ref p0), (1, .int p1), (2, .int p2)]) hx hb dX1_knotsOfRow_19 rfl hl (by decide) rfl (fun ls hl => ?_)
      refine lv_iconst (v := (1 : Int32)) hx hb dX1_knotsOfRow_20 (by decide) ?_
      refine lv_aload_n hx hb dX1_knotsOfRow_21 rfl (lv_at hl 1 rfl) ?_
      refine lv_iload_n hx hb dX1_knotsOfRow_22 rfl (lv_at hl 2 rfl) ?_
      refine lv_iload_n hx hb dX1_knotsOfRow_23 rfl (lv_at hl 0 rfl) ?_
      exact h.elim
    · replace h := hb2 hc
      refine lv_iconst (v := (0 : Int32)) hx hb dX1_knotsOfRow_14 (by decide) ?_
      exact k_reti hx hb hr hlocks rfl hR hS h dX1_knotsOfRow_15

def wp_X1_knotsOfRow_v1 (G : k_G) (post : Int32 → k_M → Prop) (p0 : Nat) (p1 : Int32) (p2 : Int32) (M0 : k_M) : Prop :=
  ((p2 ≤ (1 : Int32) →
  post (0 : Int32) M0) ∧
  (¬ p2 ≤ (1 : Int32) →
  wp_X1_isLeaf G (fun r1 M2 =>
    ((r1 = 0 →
    wp_X1_knotsOfRow_v0 G (fun r4 M5 =>
      wp_X1_knotsOfRow_v0 G (fun r7 M8 =>
      post (((1 : Int32) + r4) + r7) M8) p0 (p1 + (p2 / (2 : Int32))) (p2 / (2 : Int32)) M5) p0 p1 (p2 / (2 : Int32)) M2) ∧
    (¬ r1 = 0 →
    post (0 : Int32) M2))) p0 p1 p2 M0))
set_option maxHeartbeats 4000000 in
set_option maxRecDepth 100000 in
theorem c_X1_knotsOfRow_v1 (l : Launch) (G : k_G) (M0 : k_M) (sz : Nat) (post : Int32 → k_M → Prop) (p0 : Nat) (p1 : Int32) (p2 : Int32) (h : wp_X1_knotsOfRow_v1 G post p0 p1 p2 M0) : Met l yX1_knotsOfRow wsX1_knotsOfRow ({ frames := 2, cells := 0, slots := 0, locals := 46 }) (va_Pc [.ref p0, .int p1, .int p2] (kPre G M0 sz)) (va_Qi post (kB G M0 sz) (kA M0 sz)) 0 0 (kA M0 sz) := by
  refine Met.ofW (cc := cX1_knotsOfRow) (maxL := 4) (ret := (some .int)) (by decide) rfl ?_
  intro p e s m args below meth c s₁ B hml hv
  obtain ⟨rfl, hsz, hR, hE⟩ := hv
  have hx := B.exec
  have hb := B.bytes
  have hr := B.returns
  have hts := atoms_spec (ws := wsX1_knotsOfRow) B.pre
  have hown : s.vm.findClass RX1 = some m.cls := findClass_of_methodNamed B.named
  have hlocks := B.notSynchronized
  subst hsz
  have hK := hE.1
  have hA : ∀ q, s.heap.size ≤ q → kA M0 s.heap.size q := kA.new
  have hS : va_S (kA M0 s.heap.size) s.heap s.heap [] := va_S.rf
  have hl := lv_entry ([.ref p0, .int p1, .int p2]) (n := 4) (Nat.le_of_ble_eq_true rfl)
  rw [lg_entry_eq]
  generalize (lg_sl ([.ref p0, .int p1, .int p2]) ++ List.replicate (4 - (lg_sl ([.ref p0, .int p1, .int p2])).length) Slot.unset).toArray = ls at hl ⊢
  have hl : lv_has ls 4 [(0, .ref p0), (1, .int p1), (2, .int p2)] := hl
  have hR0 := hR
  refine lv_iload_n hx hb dX1_knotsOfRow_0 rfl (lv_at hl 2 rfl) ?_
  refine lv_iconst (v := (1 : Int32)) hx hb dX1_knotsOfRow_1 (by decide) ?_
  obtain ⟨ha, hb2⟩ := h
  refine lv_icmp_le (tgt := 14) hx hb dX1_knotsOfRow_2 (by decide) (fun hc => ?_) (fun hc => ?_)
  · replace h := ha hc
    refine lv_iconst (v := (0 : Int32)) hx hb dX1_knotsOfRow_14 (by decide) ?_
    exact k_reti hx hb hr hlocks rfl hR hS h dX1_knotsOfRow_15
  · replace h := hb2 hc
    refine lv_aload_n hx hb dX1_knotsOfRow_5 rfl (lv_at hl 0 rfl) ?_
    refine lv_iload_n hx hb dX1_knotsOfRow_6 rfl (lv_at hl 1 rfl) ?_
    refine lv_iload_n hx hb dX1_knotsOfRow_7 rfl (lv_at hl 2 rfl) ?_
    refine k_calli0 (va_runS (As := [.ref p0, .int p1, .int p2]) (rest := []) ⟨hx, hb, hml, hown, hts⟩ (c_X1_isLeaf l G _ _ _ p0 p1 p2 h) (va_cwS 3 hts gX1_knotsOfRow_X1_isLeaf rfl rfl rfl (by decide +kernel) ⟨Nat.le_of_ble_eq_true rfl, Nat.le_of_ble_eq_true rfl⟩) (k_preS hR hS hA hE) rfl rfl hl.1 rfl (lv_room (Nat.le_of_ble_eq_true rfl)) dX1_knotsOfRow_8 ⟨Nat.zero_le _, Nat.zero_le _⟩) hR hS hA (fun r1 M2 H locs h hR hS => ?_)
    obtain ⟨ha, hb2⟩ := h
    refine lv_if_eq (tgt := 16) hx hb dX1_knotsOfRow_11 (by decide) (fun hc => ?_) (fun hc => ?_)
    · replace h := ha hc
      refine lv_iload_n hx hb dX1_knotsOfRow_16 rfl (lv_at hl 2 rfl) ?_
      refine lv_iconst (v := (2 : Int32)) hx hb dX1_knotsOfRow_17 (by decide) ?_
      refine lv_idiv hx hb dX1_knotsOfRow_18 (by decide) ?_
      refine lv_istore_n (lv' := [(3, .int (p2 / (2 : Int32))), (0, .ref p0), (1, .int p1), (2, .int p2)]) hx hb dX1_knotsOfRow_19 rfl hl (by decide) rfl (fun ls hl => ?_)
      refine lv_iconst (v := (1 : Int32)) hx hb dX1_knotsOfRow_20 (by decide) ?_
      refine lv_aload_n hx hb dX1_knotsOfRow_21 rfl (lv_at hl 1 rfl) ?_
      refine lv_iload_n hx hb dX1_knotsOfRow_22 rfl (lv_at hl 2 rfl) ?_
      refine lv_iload_n hx hb dX1_knotsOfRow_23 rfl (lv_at hl 0 rfl) ?_
      refine k_calli0 (va_runS (As := [.ref p0, .int p1, .int (p2 / (2 : Int32))]) (rest := [.int (1 : Int32)]) ⟨hx, hb, hml, hown, hts⟩ (c_X1_knotsOfRow_v0 l G _ _ _ p0 p1 (p2 / (2 : Int32)) h) (va_cwS 3 hts gX1_knotsOfRow_X1_knotsOfRow rfl rfl rfl (by decide +kernel) ⟨Nat.le_of_ble_eq_true rfl, Nat.le_of_ble_eq_true rfl⟩) (k_preS hR hS hA hE) rfl rfl hl.1 rfl (lv_room (Nat.le_of_ble_eq_true rfl)) dX1_knotsOfRow_24 ⟨Nat.zero_le _, Nat.zero_le _⟩) hR hS hA (fun r4 M5 H locs h hR hS => ?_)
      refine lv_iadd hx hb dX1_knotsOfRow_27 ?_
      refine lv_aload_n hx hb dX1_knotsOfRow_28 rfl (lv_at hl 1 rfl) ?_
      refine lv_iload_n hx hb dX1_knotsOfRow_29 rfl (lv_at hl 2 rfl) ?_
      refine lv_iload_n hx hb dX1_knotsOfRow_30 rfl (lv_at hl 0 rfl) ?_
      refine lv_iadd hx hb dX1_knotsOfRow_31 ?_
      refine lv_iload_n hx hb dX1_knotsOfRow_32 rfl (lv_at hl 0 rfl) ?_
      refine k_calli0 (va_runS (As := [.ref p0, .int (p1 + (p2 / (2 : Int32))), .int (p2 / (2 : Int32))]) (rest := [.int ((1 : Int32) + r4)]) ⟨hx, hb, hml, hown, hts⟩ (c_X1_knotsOfRow_v0 l G _ _ _ p0 (p1 + (p2 / (2 : Int32))) (p2 / (2 : Int32)) h) (va_cwS 3 hts gX1_knotsOfRow_X1_knotsOfRow rfl rfl rfl (by decide +kernel) ⟨Nat.le_of_ble_eq_true rfl, Nat.le_of_ble_eq_true rfl⟩) (k_preS hR hS hA hE) rfl rfl hl.1 rfl (lv_room (Nat.le_of_ble_eq_true rfl)) dX1_knotsOfRow_33 ⟨Nat.zero_le _, Nat.zero_le _⟩) hR hS hA (fun r7 M8 H locs h hR hS => ?_)
      refine lv_iadd hx hb dX1_knotsOfRow_36 ?_
      exact k_reti hx hb hr hlocks rfl hR hS h dX1_knotsOfRow_37
    · replace h := hb2 hc
      refine lv_iconst (v := (0 : Int32)) hx hb dX1_knotsOfRow_14 (by decide) ?_
      exact k_reti hx hb hr hlocks rfl hR hS h dX1_knotsOfRow_15

def wp_X1_knotsOfRow_v2 (G : k_G) (post : Int32 → k_M → Prop) (p0 : Nat) (p1 : Int32) (p2 : Int32) (M0 : k_M) : Prop :=
  ((p2 ≤ (1 : Int32) →
  post (0 : Int32) M0) ∧
  (¬ p2 ≤ (1 : Int32) →
  wp_X1_isLeaf G (fun r1 M2 =>
    ((r1 = 0 →
    wp_X1_knotsOfRow_v1 G (fun r4 M5 =>
      wp_X1_knotsOfRow_v1 G (fun r7 M8 =>
      post (((1 : Int32) + r4) + r7) M8) p0 (p1 + (p2 / (2 : Int32))) (p2 / (2 : Int32)) M5) p0 p1 (p2 / (2 : Int32)) M2) ∧
    (¬ r1 = 0 →
    post (0 : Int32) M2))) p0 p1 p2 M0))
set_option maxHeartbeats 4000000 in
set_option maxRecDepth 100000 in
theorem c_X1_knotsOfRow_v2 (l : Launch) (G : k_G) (M0 : k_M) (sz : Nat) (post : Int32 → k_M → Prop) (p0 : Nat) (p1 : Int32) (p2 : Int32) (h : wp_X1_knotsOfRow_v2 G post p0 p1 p2 M0) : Met l yX1_knotsOfRow wsX1_knotsOfRow ({ frames := 3, cells := 0, slots := 0, locals := 69 }) (va_Pc [.ref p0, .int p1, .int p2] (kPre G M0 sz)) (va_Qi post (kB G M0 sz) (kA M0 sz)) 0 0 (kA M0 sz) := by
  refine Met.ofW (cc := cX1_knotsOfRow) (maxL := 4) (ret := (some .int)) (by decide) rfl ?_
  intro p e s m args below meth c s₁ B hml hv
  obtain ⟨rfl, hsz, hR, hE⟩ := hv
  have hx := B.exec
  have hb := B.bytes
  have hr := B.returns
  have hts := atoms_spec (ws := wsX1_knotsOfRow) B.pre
  have hown : s.vm.findClass RX1 = some m.cls := findClass_of_methodNamed B.named
  have hlocks := B.notSynchronized
  subst hsz
  have hK := hE.1
  have hA : ∀ q, s.heap.size ≤ q → kA M0 s.heap.size q := kA.new
  have hS : va_S (kA M0 s.heap.size) s.heap s.heap [] := va_S.rf
  have hl := lv_entry ([.ref p0, .int p1, .int p2]) (n := 4) (Nat.le_of_ble_eq_true rfl)
  rw [lg_entry_eq]
  generalize (lg_sl ([.ref p0, .int p1, .int p2]) ++ List.replicate (4 - (lg_sl ([.ref p0, .int p1, .int p2])).length) Slot.unset).toArray = ls at hl ⊢
  have hl : lv_has ls 4 [(0, .ref p0), (1, .int p1), (2, .int p2)] := hl
  have hR0 := hR
  refine lv_iload_n hx hb dX1_knotsOfRow_0 rfl (lv_at hl 2 rfl) ?_
  refine lv_iconst (v := (1 : Int32)) hx hb dX1_knotsOfRow_1 (by decide) ?_
  obtain ⟨ha, hb2⟩ := h
  refine lv_icmp_le (tgt := 14) hx hb dX1_knotsOfRow_2 (by decide) (fun hc => ?_) (fun hc => ?_)
  · replace h := ha hc
    refine lv_iconst (v := (0 : Int32)) hx hb dX1_knotsOfRow_14 (by decide) ?_
    exact k_reti hx hb hr hlocks rfl hR hS h dX1_knotsOfRow_15
  · replace h := hb2 hc
    refine lv_aload_n hx hb dX1_knotsOfRow_5 rfl (lv_at hl 0 rfl) ?_
    refine lv_iload_n hx hb dX1_knotsOfRow_6 rfl (lv_at hl 1 rfl) ?_
    refine lv_iload_n hx hb dX1_knotsOfRow_7 rfl (lv_at hl 2 rfl) ?_
    refine k_calli0 (va_runS (As := [.ref p0, .int p1, .int p2]) (rest := []) ⟨hx, hb, hml, hown, hts⟩ (c_X1_isLeaf l G _ _ _ p0 p1 p2 h) (va_cwS 3 hts gX1_knotsOfRow_X1_isLeaf rfl rfl rfl (by decide +kernel) ⟨Nat.le_of_ble_eq_true rfl, Nat.le_of_ble_eq_true rfl⟩) (k_preS hR hS hA hE) rfl rfl hl.1 rfl (lv_room (Nat.le_of_ble_eq_true rfl)) dX1_knotsOfRow_8 ⟨Nat.zero_le _, Nat.zero_le _⟩) hR hS hA (fun r1 M2 H locs h hR hS => ?_)
    obtain ⟨ha, hb2⟩ := h
    refine lv_if_eq (tgt := 16) hx hb dX1_knotsOfRow_11 (by decide) (fun hc => ?_) (fun hc => ?_)
    · replace h := ha hc
      refine lv_iload_n hx hb dX1_knotsOfRow_16 rfl (lv_at hl 2 rfl) ?_
      refine lv_iconst (v := (2 : Int32)) hx hb dX1_knotsOfRow_17 (by decide) ?_
      refine lv_idiv hx hb dX1_knotsOfRow_18 (by decide) ?_
      refine lv_istore_n (lv' := [(3, .int (p2 / (2 : Int32))), (0, .ref p0), (1, .int p1), (2, .int p2)]) hx hb dX1_knotsOfRow_19 rfl hl (by decide) rfl (fun ls hl => ?_)
      refine lv_iconst (v := (1 : Int32)) hx hb dX1_knotsOfRow_20 (by decide) ?_
      refine lv_aload_n hx hb dX1_knotsOfRow_21 rfl (lv_at hl 1 rfl) ?_
      refine lv_iload_n hx hb dX1_knotsOfRow_22 rfl (lv_at hl 2 rfl) ?_
      refine lv_iload_n hx hb dX1_knotsOfRow_23 rfl (lv_at hl 0 rfl) ?_
      refine k_calli0 (va_runS (As := [.ref p0, .int p1, .int (p2 / (2 : Int32))]) (rest := [.int (1 : Int32)]) ⟨hx, hb, hml, hown, hts⟩ (c_X1_knotsOfRow_v1 l G _ _ _ p0 p1 (p2 / (2 : Int32)) h) (va_cwS 3 hts gX1_knotsOfRow_X1_knotsOfRow rfl rfl rfl (by decide +kernel) ⟨Nat.le_of_ble_eq_true rfl, Nat.le_of_ble_eq_true rfl⟩) (k_preS hR hS hA hE) rfl rfl hl.1 rfl (lv_room (Nat.le_of_ble_eq_true rfl)) dX1_knotsOfRow_24 ⟨Nat.zero_le _, Nat.zero_le _⟩) hR hS hA (fun r4 M5 H locs h hR hS => ?_)
      refine lv_iadd hx hb dX1_knotsOfRow_27 ?_
      refine lv_aload_n hx hb dX1_knotsOfRow_28 rfl (lv_at hl 1 rfl) ?_
      refine lv_iload_n hx hb dX1_knotsOfRow_29 rfl (lv_at hl 2 rfl) ?_
      refine lv_iload_n hx hb dX1_knotsOfRow_30 rfl (lv_at hl 0 rfl) ?_
      refine lv_iadd hx hb dX1_knotsOfRow_31 ?_
      refine lv_iload_n hx hb dX1_knotsOfRow_32 rfl (lv_at hl 0 rfl) ?_
      refine k_calli0 (va_runS (As := [.ref p0, .int (p1 + (p2 / (2 : Int32))), .int (p2 / (2 : Int32))]) (rest := [.int ((1 : Int32) + r4)]) ⟨hx, hb, hml, hown, hts⟩ (c_X1_knotsOfRow_v1 l G _ _ _ p0 (p1 + (p2 / (2 : Int32))) (p2 / (2 : Int32)) h) (va_cwS 3 hts gX1_knotsOfRow_X1_knotsOfRow rfl rfl rfl (by decide +kernel) ⟨Nat.le_of_ble_eq_true rfl, Nat.le_of_ble_eq_true rfl⟩) (k_preS hR hS hA hE) rfl rfl hl.1 rfl (lv_room (Nat.le_of_ble_eq_true rfl)) dX1_knotsOfRow_33 ⟨Nat.zero_le _, Nat.zero_le _⟩) hR hS hA (fun r7 M8 H locs h hR hS => ?_)
      refine lv_iadd hx hb dX1_knotsOfRow_36 ?_
      exact k_reti hx hb hr hlocks rfl hR hS h dX1_knotsOfRow_37
    · replace h := hb2 hc
      refine lv_iconst (v := (0 : Int32)) hx hb dX1_knotsOfRow_14 (by decide) ?_
      exact k_reti hx hb hr hlocks rfl hR hS h dX1_knotsOfRow_15

def wp_X1_knotsOfRow_v3 (G : k_G) (post : Int32 → k_M → Prop) (p0 : Nat) (p1 : Int32) (p2 : Int32) (M0 : k_M) : Prop :=
  ((p2 ≤ (1 : Int32) →
  post (0 : Int32) M0) ∧
  (¬ p2 ≤ (1 : Int32) →
  wp_X1_isLeaf G (fun r1 M2 =>
    ((r1 = 0 →
    wp_X1_knotsOfRow_v2 G (fun r4 M5 =>
      wp_X1_knotsOfRow_v2 G (fun r7 M8 =>
      post (((1 : Int32) + r4) + r7) M8) p0 (p1 + (p2 / (2 : Int32))) (p2 / (2 : Int32)) M5) p0 p1 (p2 / (2 : Int32)) M2) ∧
    (¬ r1 = 0 →
    post (0 : Int32) M2))) p0 p1 p2 M0))
set_option maxHeartbeats 4000000 in
set_option maxRecDepth 100000 in
theorem c_X1_knotsOfRow_v3 (l : Launch) (G : k_G) (M0 : k_M) (sz : Nat) (post : Int32 → k_M → Prop) (p0 : Nat) (p1 : Int32) (p2 : Int32) (h : wp_X1_knotsOfRow_v3 G post p0 p1 p2 M0) : Met l yX1_knotsOfRow wsX1_knotsOfRow ({ frames := 4, cells := 0, slots := 0, locals := 92 }) (va_Pc [.ref p0, .int p1, .int p2] (kPre G M0 sz)) (va_Qi post (kB G M0 sz) (kA M0 sz)) 0 0 (kA M0 sz) := by
  refine Met.ofW (cc := cX1_knotsOfRow) (maxL := 4) (ret := (some .int)) (by decide) rfl ?_
  intro p e s m args below meth c s₁ B hml hv
  obtain ⟨rfl, hsz, hR, hE⟩ := hv
  have hx := B.exec
  have hb := B.bytes
  have hr := B.returns
  have hts := atoms_spec (ws := wsX1_knotsOfRow) B.pre
  have hown : s.vm.findClass RX1 = some m.cls := findClass_of_methodNamed B.named
  have hlocks := B.notSynchronized
  subst hsz
  have hK := hE.1
  have hA : ∀ q, s.heap.size ≤ q → kA M0 s.heap.size q := kA.new
  have hS : va_S (kA M0 s.heap.size) s.heap s.heap [] := va_S.rf
  have hl := lv_entry ([.ref p0, .int p1, .int p2]) (n := 4) (Nat.le_of_ble_eq_true rfl)
  rw [lg_entry_eq]
  generalize (lg_sl ([.ref p0, .int p1, .int p2]) ++ List.replicate (4 - (lg_sl ([.ref p0, .int p1, .int p2])).length) Slot.unset).toArray = ls at hl ⊢
  have hl : lv_has ls 4 [(0, .ref p0), (1, .int p1), (2, .int p2)] := hl
  have hR0 := hR
  refine lv_iload_n hx hb dX1_knotsOfRow_0 rfl (lv_at hl 2 rfl) ?_
  refine lv_iconst (v := (1 : Int32)) hx hb dX1_knotsOfRow_1 (by decide) ?_
  obtain ⟨ha, hb2⟩ := h
  refine lv_icmp_le (tgt := 14) hx hb dX1_knotsOfRow_2 (by decide) (fun hc => ?_) (fun hc => ?_)
  · replace h := ha hc
    refine lv_iconst (v := (0 : Int32)) hx hb dX1_knotsOfRow_14 (by decide) ?_
    exact k_reti hx hb hr hlocks rfl hR hS h dX1_knotsOfRow_15
  · replace h := hb2 hc
    refine lv_aload_n hx hb dX1_knotsOfRow_5 rfl (lv_at hl 0 rfl) ?_
    refine lv_iload_n hx hb dX1_knotsOfRow_6 rfl (lv_at hl 1 rfl) ?_
    refine lv_iload_n hx hb dX1_knotsOfRow_7 rfl (lv_at hl 2 rfl) ?_
    refine k_calli0 (va_runS (As := [.ref p0, .int p1, .int p2]) (rest := []) ⟨hx, hb, hml, hown, hts⟩ (c_X1_isLeaf l G _ _ _ p0 p1 p2 h) (va_cwS 3 hts gX1_knotsOfRow_X1_isLeaf rfl rfl rfl (by decide +kernel) ⟨Nat.le_of_ble_eq_true rfl, Nat.le_of_ble_eq_true rfl⟩) (k_preS hR hS hA hE) rfl rfl hl.1 rfl (lv_room (Nat.le_of_ble_eq_true rfl)) dX1_knotsOfRow_8 ⟨Nat.zero_le _, Nat.zero_le _⟩) hR hS hA (fun r1 M2 H locs h hR hS => ?_)
    obtain ⟨ha, hb2⟩ := h
    refine lv_if_eq (tgt := 16) hx hb dX1_knotsOfRow_11 (by decide) (fun hc => ?_) (fun hc => ?_)
    · replace h := ha hc
      refine lv_iload_n hx hb dX1_knotsOfRow_16 rfl (lv_at hl 2 rfl) ?_
      refine lv_iconst (v := (2 : Int32)) hx hb dX1_knotsOfRow_17 (by decide) ?_
      refine lv_idiv hx hb dX1_knotsOfRow_18 (by decide) ?_
      refine lv_istore_n (lv' := [(3, .int (p2 / (2 : Int32))), (0, .ref p0), (1, .int p1), (2, .int p2)]) hx hb dX1_knotsOfRow_19 rfl hl (by decide) rfl (fun ls hl => ?_)
      refine lv_iconst (v := (1 : Int32)) hx hb dX1_knotsOfRow_20 (by decide) ?_
      refine lv_aload_n hx hb dX1_knotsOfRow_21 rfl (lv_at hl 1 rfl) ?_
      refine lv_iload_n hx hb dX1_knotsOfRow_22 rfl (lv_at hl 2 rfl) ?_
      refine lv_iload_n hx hb dX1_knotsOfRow_23 rfl (lv_at hl 0 rfl) ?_
      refine k_calli0 (va_runS (As := [.ref p0, .int p1, .int (p2 / (2 : Int32))]) (rest := [.int (1 : Int32)]) ⟨hx, hb, hml, hown, hts⟩ (c_X1_knotsOfRow_v2 l G _ _ _ p0 p1 (p2 / (2 : Int32)) h) (va_cwS 3 hts gX1_knotsOfRow_X1_knotsOfRow rfl rfl rfl (by decide +kernel) ⟨Nat.le_of_ble_eq_true rfl, Nat.le_of_ble_eq_true rfl⟩) (k_preS hR hS hA hE) rfl rfl hl.1 rfl (lv_room (Nat.le_of_ble_eq_true rfl)) dX1_knotsOfRow_24 ⟨Nat.zero_le _, Nat.zero_le _⟩) hR hS hA (fun r4 M5 H locs h hR hS => ?_)
      refine lv_iadd hx hb dX1_knotsOfRow_27 ?_
      refine lv_aload_n hx hb dX1_knotsOfRow_28 rfl (lv_at hl 1 rfl) ?_
      refine lv_iload_n hx hb dX1_knotsOfRow_29 rfl (lv_at hl 2 rfl) ?_
      refine lv_iload_n hx hb dX1_knotsOfRow_30 rfl (lv_at hl 0 rfl) ?_
      refine lv_iadd hx hb dX1_knotsOfRow_31 ?_
      refine lv_iload_n hx hb dX1_knotsOfRow_32 rfl (lv_at hl 0 rfl) ?_
      refine k_calli0 (va_runS (As := [.ref p0, .int (p1 + (p2 / (2 : Int32))), .int (p2 / (2 : Int32))]) (rest := [.int ((1 : Int32) + r4)]) ⟨hx, hb, hml, hown, hts⟩ (c_X1_knotsOfRow_v2 l G _ _ _ p0 (p1 + (p2 / (2 : Int32))) (p2 / (2 : Int32)) h) (va_cwS 3 hts gX1_knotsOfRow_X1_knotsOfRow rfl rfl rfl (by decide +kernel) ⟨Nat.le_of_ble_eq_true rfl, Nat.le_of_ble_eq_true rfl⟩) (k_preS hR hS hA hE) rfl rfl hl.1 rfl (lv_room (Nat.le_of_ble_eq_true rfl)) dX1_knotsOfRow_33 ⟨Nat.zero_le _, Nat.zero_le _⟩) hR hS hA (fun r7 M8 H locs h hR hS => ?_)
      refine lv_iadd hx hb dX1_knotsOfRow_36 ?_
      exact k_reti hx hb hr hlocks rfl hR hS h dX1_knotsOfRow_37
    · replace h := hb2 hc
      refine lv_iconst (v := (0 : Int32)) hx hb dX1_knotsOfRow_14 (by decide) ?_
      exact k_reti hx hb hr hlocks rfl hR hS h dX1_knotsOfRow_15

def wp_X1_knotsOfRow_v4 (G : k_G) (post : Int32 → k_M → Prop) (p0 : Nat) (p1 : Int32) (p2 : Int32) (M0 : k_M) : Prop :=
  ((p2 ≤ (1 : Int32) →
  post (0 : Int32) M0) ∧
  (¬ p2 ≤ (1 : Int32) →
  wp_X1_isLeaf G (fun r1 M2 =>
    ((r1 = 0 →
    wp_X1_knotsOfRow_v3 G (fun r4 M5 =>
      wp_X1_knotsOfRow_v3 G (fun r7 M8 =>
      post (((1 : Int32) + r4) + r7) M8) p0 (p1 + (p2 / (2 : Int32))) (p2 / (2 : Int32)) M5) p0 p1 (p2 / (2 : Int32)) M2) ∧
    (¬ r1 = 0 →
    post (0 : Int32) M2))) p0 p1 p2 M0))
set_option maxHeartbeats 4000000 in
set_option maxRecDepth 100000 in
theorem c_X1_knotsOfRow_v4 (l : Launch) (G : k_G) (M0 : k_M) (sz : Nat) (post : Int32 → k_M → Prop) (p0 : Nat) (p1 : Int32) (p2 : Int32) (h : wp_X1_knotsOfRow_v4 G post p0 p1 p2 M0) : Met l yX1_knotsOfRow wsX1_knotsOfRow ({ frames := 5, cells := 0, slots := 0, locals := 115 }) (va_Pc [.ref p0, .int p1, .int p2] (kPre G M0 sz)) (va_Qi post (kB G M0 sz) (kA M0 sz)) 0 0 (kA M0 sz) := by
  refine Met.ofW (cc := cX1_knotsOfRow) (maxL := 4) (ret := (some .int)) (by decide) rfl ?_
  intro p e s m args below meth c s₁ B hml hv
  obtain ⟨rfl, hsz, hR, hE⟩ := hv
  have hx := B.exec
  have hb := B.bytes
  have hr := B.returns
  have hts := atoms_spec (ws := wsX1_knotsOfRow) B.pre
  have hown : s.vm.findClass RX1 = some m.cls := findClass_of_methodNamed B.named
  have hlocks := B.notSynchronized
  subst hsz
  have hK := hE.1
  have hA : ∀ q, s.heap.size ≤ q → kA M0 s.heap.size q := kA.new
  have hS : va_S (kA M0 s.heap.size) s.heap s.heap [] := va_S.rf
  have hl := lv_entry ([.ref p0, .int p1, .int p2]) (n := 4) (Nat.le_of_ble_eq_true rfl)
  rw [lg_entry_eq]
  generalize (lg_sl ([.ref p0, .int p1, .int p2]) ++ List.replicate (4 - (lg_sl ([.ref p0, .int p1, .int p2])).length) Slot.unset).toArray = ls at hl ⊢
  have hl : lv_has ls 4 [(0, .ref p0), (1, .int p1), (2, .int p2)] := hl
  have hR0 := hR
  refine lv_iload_n hx hb dX1_knotsOfRow_0 rfl (lv_at hl 2 rfl) ?_
  refine lv_iconst (v := (1 : Int32)) hx hb dX1_knotsOfRow_1 (by decide) ?_
  obtain ⟨ha, hb2⟩ := h
  refine lv_icmp_le (tgt := 14) hx hb dX1_knotsOfRow_2 (by decide) (fun hc => ?_) (fun hc => ?_)
  · replace h := ha hc
    refine lv_iconst (v := (0 : Int32)) hx hb dX1_knotsOfRow_14 (by decide) ?_
    exact k_reti hx hb hr hlocks rfl hR hS h dX1_knotsOfRow_15
  · replace h := hb2 hc
    refine lv_aload_n hx hb dX1_knotsOfRow_5 rfl (lv_at hl 0 rfl) ?_
    refine lv_iload_n hx hb dX1_knotsOfRow_6 rfl (lv_at hl 1 rfl) ?_
    refine lv_iload_n hx hb dX1_knotsOfRow_7 rfl (lv_at hl 2 rfl) ?_
    refine k_calli0 (va_runS (As := [.ref p0, .int p1, .int p2]) (rest := []) ⟨hx, hb, hml, hown, hts⟩ (c_X1_isLeaf l G _ _ _ p0 p1 p2 h) (va_cwS 3 hts gX1_knotsOfRow_X1_isLeaf rfl rfl rfl (by decide +kernel) ⟨Nat.le_of_ble_eq_true rfl, Nat.le_of_ble_eq_true rfl⟩) (k_preS hR hS hA hE) rfl rfl hl.1 rfl (lv_room (Nat.le_of_ble_eq_true rfl)) dX1_knotsOfRow_8 ⟨Nat.zero_le _, Nat.zero_le _⟩) hR hS hA (fun r1 M2 H locs h hR hS => ?_)
    obtain ⟨ha, hb2⟩ := h
    refine lv_if_eq (tgt := 16) hx hb dX1_knotsOfRow_11 (by decide) (fun hc => ?_) (fun hc => ?_)
    · replace h := ha hc
      refine lv_iload_n hx hb dX1_knotsOfRow_16 rfl (lv_at hl 2 rfl) ?_
      refine lv_iconst (v := (2 : Int32)) hx hb dX1_knotsOfRow_17 (by decide) ?_
      refine lv_idiv hx hb dX1_knotsOfRow_18 (by decide) ?_
      refine lv_istore_n (lv' := [(3, .int (p2 / (2 : Int32))), (0, .ref p0), (1, .int p1), (2, .int p2)]) hx hb dX1_knotsOfRow_19 rfl hl (by decide) rfl (fun ls hl => ?_)
      refine lv_iconst (v := (1 : Int32)) hx hb dX1_knotsOfRow_20 (by decide) ?_
      refine lv_aload_n hx hb dX1_knotsOfRow_21 rfl (lv_at hl 1 rfl) ?_
      refine lv_iload_n hx hb dX1_knotsOfRow_22 rfl (lv_at hl 2 rfl) ?_
      refine lv_iload_n hx hb dX1_knotsOfRow_23 rfl (lv_at hl 0 rfl) ?_
      refine k_calli0 (va_runS (As := [.ref p0, .int p1, .int (p2 / (2 : Int32))]) (rest := [.int (1 : Int32)]) ⟨hx, hb, hml, hown, hts⟩ (c_X1_knotsOfRow_v3 l G _ _ _ p0 p1 (p2 / (2 : Int32)) h) (va_cwS 3 hts gX1_knotsOfRow_X1_knotsOfRow rfl rfl rfl (by decide +kernel) ⟨Nat.le_of_ble_eq_true rfl, Nat.le_of_ble_eq_true rfl⟩) (k_preS hR hS hA hE) rfl rfl hl.1 rfl (lv_room (Nat.le_of_ble_eq_true rfl)) dX1_knotsOfRow_24 ⟨Nat.zero_le _, Nat.zero_le _⟩) hR hS hA (fun r4 M5 H locs h hR hS => ?_)
      refine lv_iadd hx hb dX1_knotsOfRow_27 ?_
      refine lv_aload_n hx hb dX1_knotsOfRow_28 rfl (lv_at hl 1 rfl) ?_
      refine lv_iload_n hx hb dX1_knotsOfRow_29 rfl (lv_at hl 2 rfl) ?_
      refine lv_iload_n hx hb dX1_knotsOfRow_30 rfl (lv_at hl 0 rfl) ?_
      refine lv_iadd hx hb dX1_knotsOfRow_31 ?_
      refine lv_iload_n hx hb dX1_knotsOfRow_32 rfl (lv_at hl 0 rfl) ?_
      refine k_calli0 (va_runS (As := [.ref p0, .int (p1 + (p2 / (2 : Int32))), .int (p2 / (2 : Int32))]) (rest := [.int ((1 : Int32) + r4)]) ⟨hx, hb, hml, hown, hts⟩ (c_X1_knotsOfRow_v3 l G _ _ _ p0 (p1 + (p2 / (2 : Int32))) (p2 / (2 : Int32)) h) (va_cwS 3 hts gX1_knotsOfRow_X1_knotsOfRow rfl rfl rfl (by decide +kernel) ⟨Nat.le_of_ble_eq_true rfl, Nat.le_of_ble_eq_true rfl⟩) (k_preS hR hS hA hE) rfl rfl hl.1 rfl (lv_room (Nat.le_of_ble_eq_true rfl)) dX1_knotsOfRow_33 ⟨Nat.zero_le _, Nat.zero_le _⟩) hR hS hA (fun r7 M8 H locs h hR hS => ?_)
      refine lv_iadd hx hb dX1_knotsOfRow_36 ?_
      exact k_reti hx hb hr hlocks rfl hR hS h dX1_knotsOfRow_37
    · replace h := hb2 hc
      refine lv_iconst (v := (0 : Int32)) hx hb dX1_knotsOfRow_14 (by decide) ?_
      exact k_reti hx hb hr hlocks rfl hR hS h dX1_knotsOfRow_15

def wp_X1_knotsOfRow_v5 (G : k_G) (post : Int32 → k_M → Prop) (p0 : Nat) (p1 : Int32) (p2 : Int32) (M0 : k_M) : Prop :=
  ((p2 ≤ (1 : Int32) →
  post (0 : Int32) M0) ∧
  (¬ p2 ≤ (1 : Int32) →
  wp_X1_isLeaf G (fun r1 M2 =>
    ((r1 = 0 →
    wp_X1_knotsOfRow_v4 G (fun r4 M5 =>
      wp_X1_knotsOfRow_v4 G (fun r7 M8 =>
      post (((1 : Int32) + r4) + r7) M8) p0 (p1 + (p2 / (2 : Int32))) (p2 / (2 : Int32)) M5) p0 p1 (p2 / (2 : Int32)) M2) ∧
    (¬ r1 = 0 →
    post (0 : Int32) M2))) p0 p1 p2 M0))
set_option maxHeartbeats 4000000 in
set_option maxRecDepth 100000 in
theorem c_X1_knotsOfRow_v5 (l : Launch) (G : k_G) (M0 : k_M) (sz : Nat) (post : Int32 → k_M → Prop) (p0 : Nat) (p1 : Int32) (p2 : Int32) (h : wp_X1_knotsOfRow_v5 G post p0 p1 p2 M0) : Met l yX1_knotsOfRow wsX1_knotsOfRow ({ frames := 6, cells := 0, slots := 0, locals := 138 }) (va_Pc [.ref p0, .int p1, .int p2] (kPre G M0 sz)) (va_Qi post (kB G M0 sz) (kA M0 sz)) 0 0 (kA M0 sz) := by
  refine Met.ofW (cc := cX1_knotsOfRow) (maxL := 4) (ret := (some .int)) (by decide) rfl ?_
  intro p e s m args below meth c s₁ B hml hv
  obtain ⟨rfl, hsz, hR, hE⟩ := hv
  have hx := B.exec
  have hb := B.bytes
  have hr := B.returns
  have hts := atoms_spec (ws := wsX1_knotsOfRow) B.pre
  have hown : s.vm.findClass RX1 = some m.cls := findClass_of_methodNamed B.named
  have hlocks := B.notSynchronized
  subst hsz
  have hK := hE.1
  have hA : ∀ q, s.heap.size ≤ q → kA M0 s.heap.size q := kA.new
  have hS : va_S (kA M0 s.heap.size) s.heap s.heap [] := va_S.rf
  have hl := lv_entry ([.ref p0, .int p1, .int p2]) (n := 4) (Nat.le_of_ble_eq_true rfl)
  rw [lg_entry_eq]
  generalize (lg_sl ([.ref p0, .int p1, .int p2]) ++ List.replicate (4 - (lg_sl ([.ref p0, .int p1, .int p2])).length) Slot.unset).toArray = ls at hl ⊢
  have hl : lv_has ls 4 [(0, .ref p0), (1, .int p1), (2, .int p2)] := hl
  have hR0 := hR
  refine lv_iload_n hx hb dX1_knotsOfRow_0 rfl (lv_at hl 2 rfl) ?_
  refine lv_iconst (v := (1 : Int32)) hx hb dX1_knotsOfRow_1 (by decide) ?_
  obtain ⟨ha, hb2⟩ := h
  refine lv_icmp_le (tgt := 14) hx hb dX1_knotsOfRow_2 (by decide) (fun hc => ?_) (fun hc => ?_)
  · replace h := ha hc
    refine lv_iconst (v := (0 : Int32)) hx hb dX1_knotsOfRow_14 (by decide) ?_
    exact k_reti hx hb hr hlocks rfl hR hS h dX1_knotsOfRow_15
  · replace h := hb2 hc
    refine lv_aload_n hx hb dX1_knotsOfRow_5 rfl (lv_at hl 0 rfl) ?_
    refine lv_iload_n hx hb dX1_knotsOfRow_6 rfl (lv_at hl 1 rfl) ?_
    refine lv_iload_n hx hb dX1_knotsOfRow_7 rfl (lv_at hl 2 rfl) ?_
    refine k_calli0 (va_runS (As := [.ref p0, .int p1, .int p2]) (rest := []) ⟨hx, hb, hml, hown, hts⟩ (c_X1_isLeaf l G _ _ _ p0 p1 p2 h) (va_cwS 3 hts gX1_knotsOfRow_X1_isLeaf rfl rfl rfl (by decide +kernel) ⟨Nat.le_of_ble_eq_true rfl, Nat.le_of_ble_eq_true rfl⟩) (k_preS hR hS hA hE) rfl rfl hl.1 rfl (lv_room (Nat.le_of_ble_eq_true rfl)) dX1_knotsOfRow_8 ⟨Nat.zero_le _, Nat.zero_le _⟩) hR hS hA (fun r1 M2 H locs h hR hS => ?_)
    obtain ⟨ha, hb2⟩ := h
    refine lv_if_eq (tgt := 16) hx hb dX1_knotsOfRow_11 (by decide) (fun hc => ?_) (fun hc => ?_)
    · replace h := ha hc
      refine lv_iload_n hx hb dX1_knotsOfRow_16 rfl (lv_at hl 2 rfl) ?_
      refine lv_iconst (v := (2 : Int32)) hx hb dX1_knotsOfRow_17 (by decide) ?_
      refine lv_idiv hx hb dX1_knotsOfRow_18 (by decide) ?_
      refine lv_istore_n (lv' := [(3, .int (p2 / (2 : Int32))), (0, .ref p0), (1, .int p1), (2, .int p2)]) hx hb dX1_knotsOfRow_19 rfl hl (by decide) rfl (fun ls hl => ?_)
      refine lv_iconst (v := (1 : Int32)) hx hb dX1_knotsOfRow_20 (by decide) ?_
      refine lv_aload_n hx hb dX1_knotsOfRow_21 rfl (lv_at hl 1 rfl) ?_
      refine lv_iload_n hx hb dX1_knotsOfRow_22 rfl (lv_at hl 2 rfl) ?_
      refine lv_iload_n hx hb dX1_knotsOfRow_23 rfl (lv_at hl 0 rfl) ?_
      refine k_calli0 (va_runS (As := [.ref p0, .int p1, .int (p2 / (2 : Int32))]) (rest := [.int (1 : Int32)]) ⟨hx, hb, hml, hown, hts⟩ (c_X1_knotsOfRow_v4 l G _ _ _ p0 p1 (p2 / (2 : Int32)) h) (va_cwS 3 hts gX1_knotsOfRow_X1_knotsOfRow rfl rfl rfl (by decide +kernel) ⟨Nat.le_of_ble_eq_true rfl, Nat.le_of_ble_eq_true rfl⟩) (k_preS hR hS hA hE) rfl rfl hl.1 rfl (lv_room (Nat.le_of_ble_eq_true rfl)) dX1_knotsOfRow_24 ⟨Nat.zero_le _, Nat.zero_le _⟩) hR hS hA (fun r4 M5 H locs h hR hS => ?_)
      refine lv_iadd hx hb dX1_knotsOfRow_27 ?_
      refine lv_aload_n hx hb dX1_knotsOfRow_28 rfl (lv_at hl 1 rfl) ?_
      refine lv_iload_n hx hb dX1_knotsOfRow_29 rfl (lv_at hl 2 rfl) ?_
      refine lv_iload_n hx hb dX1_knotsOfRow_30 rfl (lv_at hl 0 rfl) ?_
      refine lv_iadd hx hb dX1_knotsOfRow_31 ?_
      refine lv_iload_n hx hb dX1_knotsOfRow_32 rfl (lv_at hl 0 rfl) ?_
      refine k_calli0 (va_runS (As := [.ref p0, .int (p1 + (p2 / (2 : Int32))), .int (p2 / (2 : Int32))]) (rest := [.int ((1 : Int32) + r4)]) ⟨hx, hb, hml, hown, hts⟩ (c_X1_knotsOfRow_v4 l G _ _ _ p0 (p1 + (p2 / (2 : Int32))) (p2 / (2 : Int32)) h) (va_cwS 3 hts gX1_knotsOfRow_X1_knotsOfRow rfl rfl rfl (by decide +kernel) ⟨Nat.le_of_ble_eq_true rfl, Nat.le_of_ble_eq_true rfl⟩) (k_preS hR hS hA hE) rfl rfl hl.1 rfl (lv_room (Nat.le_of_ble_eq_true rfl)) dX1_knotsOfRow_33 ⟨Nat.zero_le _, Nat.zero_le _⟩) hR hS hA (fun r7 M8 H locs h hR hS => ?_)
      refine lv_iadd hx hb dX1_knotsOfRow_36 ?_
      exact k_reti hx hb hr hlocks rfl hR hS h dX1_knotsOfRow_37
    · replace h := hb2 hc
      refine lv_iconst (v := (0 : Int32)) hx hb dX1_knotsOfRow_14 (by decide) ?_
      exact k_reti hx hb hr hlocks rfl hR hS h dX1_knotsOfRow_15

def wp_X1_knots (G : k_G) (post : Int32 → k_M → Prop) (p0 : Nat) (M0 : k_M) : Prop :=
  (∃ fs1 v2, M0 p0 = some (kO 2 fs1) ∧ fs1[0]? = some (.ref v2) ∧
  wp_X1_knotsOfRow_v5 G (fun r5 M6 =>
  post r5 M6) v2 (0 : Int32) (16 : Int32) M0)
theorem in_X1_knots_X1 : ∀ w ∈ wsX10, w ∈ wsX1_knots := by decide +kernel
set_option maxHeartbeats 4000000 in
set_option maxRecDepth 100000 in
theorem c_X1_knots (l : Launch) (G : k_G) (M0 : k_M) (sz : Nat) (post : Int32 → k_M → Prop) (p0 : Nat) (h : wp_X1_knots G post p0 M0) : Met l yX1_knots wsX1_knots ({ frames := 7, cells := 0, slots := 0, locals := 161 }) (va_Pc [.ref p0] (kPre G M0 sz)) (va_Qi post (kB G M0 sz) (kA M0 sz)) 0 0 (kA M0 sz) := by
  refine Met.ofW (cc := cX1_knots) (maxL := 1) (ret := (some .int)) (by decide) rfl ?_
  intro p e s m args below meth c s₁ B hml hv
  obtain ⟨rfl, hsz, hR, hE⟩ := hv
  have hx := B.exec
  have hb := B.bytes
  have hr := B.returns
  have hts := atoms_spec (ws := wsX1_knots) B.pre
  have hown : s.vm.findClass RX1 = some m.cls := findClass_of_methodNamed B.named
  have hlocks := B.notSynchronized
  subst hsz
  have hK := hE.1
  have hA : ∀ q, s.heap.size ≤ q → kA M0 s.heap.size q := kA.new
  have hS : va_S (kA M0 s.heap.size) s.heap s.heap [] := va_S.rf
  have hw1 := hts (.fieldLink RX1 9 "ForkedStamps$Stamp" "heights" "[I") (by decide +kernel)
  have hl := lv_entry ([.ref p0]) (n := 1) (Nat.le_of_ble_eq_true rfl)
  rw [lg_entry_eq]
  generalize (lg_sl ([.ref p0]) ++ List.replicate (1 - (lg_sl ([.ref p0])).length) Slot.unset).toArray = ls at hl ⊢
  have hl : lv_has ls 1 [(0, .ref p0)] := hl
  have hR0 := hR
  refine lv_aload_n hx hb dX1_knots_0 rfl (lv_at hl 0 rfl) ?_
  obtain ⟨fs1, v2, hm3, hv4, h⟩ := h
  refine k_get (ci := 2) (C := RX1) (T := TX1) (N := 3) hx hb hts in_X1_knots_X1 hown hK hR hm3 rfl 0 (by decide) hw1 (fun _ h9 => h9) hv4 dX1_knots_1 ?_
  refine lv_iconst (v := (0 : Int32)) hx hb dX1_knots_4 (by decide) ?_
  refine lv_bipush (v := (16 : Int32)) hx hb dX1_knots_5 (by decide) ?_
  refine k_calli0 (va_runS (As := [.ref v2, .int (0 : Int32), .int (16 : Int32)]) (rest := []) ⟨hx, hb, hml, hown, hts⟩ (c_X1_knotsOfRow_v5 l G _ _ _ v2 (0 : Int32) (16 : Int32) h) (va_cwS 3 hts gX1_knots_X1_knotsOfRow rfl rfl rfl (by decide +kernel) ⟨Nat.le_of_ble_eq_true rfl, Nat.le_of_ble_eq_true rfl⟩) (k_preS hR hS hA hE) rfl rfl hl.1 rfl (lv_room (Nat.le_of_ble_eq_true rfl)) dX1_knots_7 ⟨Nat.zero_le _, Nat.zero_le _⟩) hR hS hA (fun r5 M6 H locs h hR hS => ?_)
  exact k_reti hx hb hr hlocks rfl hR hS h dX1_knots_10
