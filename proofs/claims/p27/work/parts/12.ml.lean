def wp_L_cell (G : k_G) (post : Int32 → k_M → Prop) (p0 : Nat) (p1 : Int32) (M0 : k_M) : Prop :=
  (p0 = kb G ∧
  (((nI (kL G)) ≤ p1 →
  post (((1046122951 : Int32) * (p1 + (1 : Int32))) + (743406477 : Int32)) M0) ∧
  (¬ (nI (kL G)) ≤ p1 →
  (p0 = kb G ∧ vp_in p1 (kL G) ∧
    post (kx G (p1).toNatClampNeg) M0))))
set_option maxHeartbeats 4000000 in
set_option maxRecDepth 100000 in
theorem c_L_cell (l : Launch) (G : k_G) (M0 : k_M) (sz : Nat) (post : Int32 → k_M → Prop) (p0 : Nat) (p1 : Int32) (h : wp_L_cell G post p0 p1 M0) : Met l yL_cell wsL_cell ({ frames := 0, cells := 0, slots := 0, locals := 0 }) (va_Pc [.ref p0, .int p1] (kPre G M0 sz)) (va_Qi post (kB G M0 sz) (kA M0 sz)) 0 0 (kA M0 sz) := by
  refine Met.ofW (cc := cL_cell) (maxL := 2) (ret := (some .int)) (by decide) rfl ?_
  intro p e s m args below meth c s₁ B hml hv
  obtain ⟨rfl, hsz, hR, hE⟩ := hv
  have hx := B.exec
  have hb := B.bytes
  have hr := B.returns
  have hts := atoms_spec (ws := wsL_cell) B.pre
  have hown : s.vm.findClass RL = some m.cls := findClass_of_methodNamed B.named
  have hlocks := B.notSynchronized
  subst hsz
  have hK := hE.1
  have hA : ∀ q, s.heap.size ≤ q → kA M0 s.heap.size q := kA.new
  have hS : va_S (kA M0 s.heap.size) s.heap s.heap [] := va_S.rf
  have hw1 := hts (.constant RL 7 (1046122951)) (by decide +kernel)
  have hw2 := hts (.constant RL 8 (743406477)) (by decide +kernel)
  have hl := lv_entry ([.ref p0, .int p1]) (n := 2) (Nat.le_of_ble_eq_true rfl)
  rw [lg_entry_eq]
  generalize (lg_sl ([.ref p0, .int p1]) ++ List.replicate (2 - (lg_sl ([.ref p0, .int p1])).length) Slot.unset).toArray = ls at hl ⊢
  have hl : lv_has ls 2 [(0, .ref p0), (1, .int p1)] := hl
  have hR0 := hR
  refine lv_iload_n hx hb dL_cell_0 rfl (lv_at hl 1 rfl) ?_
  refine lv_aload_n hx hb dL_cell_1 rfl (lv_at hl 0 rfl) ?_
  obtain ⟨hkb9, h⟩ := h
  first | subst hkb9 | clear hkb9
  refine k_slen hx hb hE hS dL_cell_2 ?_
  obtain ⟨ha, hb2⟩ := h
  refine lv_icmp_ge (tgt := 12) hx hb dL_cell_3 (by decide) (fun hc => ?_) (fun hc => ?_)
  · replace h := ha hc
    refine lv_ldc (v := (1046122951 : Int32)) hx hb hown hw1 dL_cell_12 ?_
    refine lv_iload_n hx hb dL_cell_14 rfl (lv_at hl 1 rfl) ?_
    refine lv_iconst (v := (1 : Int32)) hx hb dL_cell_15 (by decide) ?_
    refine lv_iadd hx hb dL_cell_16 ?_
    refine lv_imul hx hb dL_cell_17 ?_
    refine lv_ldc (v := (743406477 : Int32)) hx hb hown hw2 dL_cell_18 ?_
    refine lv_iadd hx hb dL_cell_20 ?_
    exact k_reti hx hb hr hlocks rfl hR hS h dL_cell_21
  · replace h := hb2 hc
    refine lv_aload_n hx hb dL_cell_6 rfl (lv_at hl 0 rfl) ?_
    refine lv_iload_n hx hb dL_cell_7 rfl (lv_at hl 1 rfl) ?_
    obtain ⟨hkb9, hv1, h⟩ := h
    first | subst hkb9 | clear hkb9
    refine k_sld hx hb hE hS hv1 dL_cell_8 ?_
    refine lv_goto (tgt := 21) hx hb dL_cell_9 (by decide) ?_
    exact k_reti hx hb hr hlocks rfl hR hS h dL_cell_21

def wp_L_low (G : k_G) (post : Int32 → k_M → Prop) (p0 : Int32) (p1 : Int32) (M0 : k_M) : Prop :=
  (¬ p1 = 0 ∧ post ((p0 &&& (2147483647 : Int32)) - (p0 &&& (2147483647 : Int32)) / p1 * p1) M0)
set_option maxHeartbeats 4000000 in
set_option maxRecDepth 100000 in
theorem c_L_low (l : Launch) (G : k_G) (M0 : k_M) (sz : Nat) (post : Int32 → k_M → Prop) (p0 : Int32) (p1 : Int32) (h : wp_L_low G post p0 p1 M0) : Met l yL_low wsL_low ({ frames := 0, cells := 0, slots := 0, locals := 0 }) (va_Pc [.int p0, .int p1] (kPre G M0 sz)) (va_Qi post (kB G M0 sz) (kA M0 sz)) 0 0 (kA M0 sz) := by
  refine Met.ofW (cc := cL_low) (maxL := 2) (ret := (some .int)) (by decide) rfl ?_
  intro p e s m args below meth c s₁ B hml hv
  obtain ⟨rfl, hsz, hR, hE⟩ := hv
  have hx := B.exec
  have hb := B.bytes
  have hr := B.returns
  have hts := atoms_spec (ws := wsL_low) B.pre
  have hown : s.vm.findClass RL = some m.cls := findClass_of_methodNamed B.named
  have hlocks := B.notSynchronized
  subst hsz
  have hK := hE.1
  have hA : ∀ q, s.heap.size ≤ q → kA M0 s.heap.size q := kA.new
  have hS : va_S (kA M0 s.heap.size) s.heap s.heap [] := va_S.rf
  have hw1 := hts (.constant RL 9 (2147483647)) (by decide +kernel)
  have hl := lv_entry ([.int p0, .int p1]) (n := 2) (Nat.le_of_ble_eq_true rfl)
  rw [lg_entry_eq]
  generalize (lg_sl ([.int p0, .int p1]) ++ List.replicate (2 - (lg_sl ([.int p0, .int p1])).length) Slot.unset).toArray = ls at hl ⊢
  have hl : lv_has ls 2 [(0, .int p0), (1, .int p1)] := hl
  have hR0 := hR
  refine lv_iload_n hx hb dL_low_0 rfl (lv_at hl 0 rfl) ?_
  refine lv_ldc (v := (2147483647 : Int32)) hx hb hown hw1 dL_low_1 ?_
  refine lv_iand hx hb dL_low_3 ?_
  refine lv_iload_n hx hb dL_low_4 rfl (lv_at hl 1 rfl) ?_
  obtain ⟨hz1, h⟩ := h
  refine lv_irem hx hb dL_low_5 hz1 ?_
  exact k_reti hx hb hr hlocks rfl hR hS h dL_low_6

def wp_L_height (G : k_G) (post : Int32 → k_M → Prop) (p0 : Int32) (p1 : Int32) (p2 : Nat) (M0 : k_M) : Prop :=
  (∃ n1 f2, M0 p2 = some (kJ G n1 f2) ∧ vp_in (((2 : Int32) * p0) + (p1 / (8 : Int32))) n1 ∧
  post (((((f2 ((((2 : Int32) * p0) + (p1 / (8 : Int32)))).toNatClampNeg)).toUInt64 >>> ((((8 : Int32) * (p1 - p1 / (8 : Int32) * (8 : Int32)))).toInt64.toUInt64 &&& Int64.toUInt64 63)).toInt64 &&& (255 : Int64))).toInt32 M0)
set_option maxHeartbeats 4000000 in
set_option maxRecDepth 100000 in
theorem c_L_height (l : Launch) (G : k_G) (M0 : k_M) (sz : Nat) (post : Int32 → k_M → Prop) (p0 : Int32) (p1 : Int32) (p2 : Nat) (h : wp_L_height G post p0 p1 p2 M0) : Met l yL_height wsL_height ({ frames := 0, cells := 0, slots := 0, locals := 0 }) (va_Pc [.int p0, .int p1, .ref p2] (kPre G M0 sz)) (va_Qi post (kB G M0 sz) (kA M0 sz)) 0 0 (kA M0 sz) := by
  refine Met.ofW (cc := cL_height) (maxL := 3) (ret := (some .int)) (by decide) rfl ?_
  intro p e s m args below meth c s₁ B hml hv
  obtain ⟨rfl, hsz, hR, hE⟩ := hv
  have hx := B.exec
  have hb := B.bytes
  have hr := B.returns
  have hts := atoms_spec (ws := wsL_height) B.pre
  have hown : s.vm.findClass RL = some m.cls := findClass_of_methodNamed B.named
  have hlocks := B.notSynchronized
  subst hsz
  have hK := hE.1
  have hA : ∀ q, s.heap.size ≤ q → kA M0 s.heap.size q := kA.new
  have hS : va_S (kA M0 s.heap.size) s.heap s.heap [] := va_S.rf
  have hw1 := hts (.constantLong RL 10 (255)) (by decide +kernel)
  have hl := lv_entry ([.int p0, .int p1, .ref p2]) (n := 3) (Nat.le_of_ble_eq_true rfl)
  rw [lg_entry_eq]
  generalize (lg_sl ([.int p0, .int p1, .ref p2]) ++ List.replicate (3 - (lg_sl ([.int p0, .int p1, .ref p2])).length) Slot.unset).toArray = ls at hl ⊢
  have hl : lv_has ls 3 [(0, .int p0), (1, .int p1), (2, .ref p2)] := hl
  have hR0 := hR
  refine lv_aload_n hx hb dL_height_0 rfl (lv_at hl 2 rfl) ?_
  refine lv_iconst (v := (2 : Int32)) hx hb dL_height_1 (by decide) ?_
  refine lv_iload_n hx hb dL_height_2 rfl (lv_at hl 0 rfl) ?_
  refine lv_imul hx hb dL_height_3 ?_
  refine lv_iload_n hx hb dL_height_4 rfl (lv_at hl 1 rfl) ?_
  refine lv_bipush (v := (8 : Int32)) hx hb dL_height_5 (by decide) ?_
  refine lv_idiv hx hb dL_height_7 (by decide) ?_
  refine lv_iadd hx hb dL_height_8 ?_
  obtain ⟨n1, f2, hm3, hv4, h⟩ := h
  refine k_lald hx hb hK hR hm3 hv4 dL_height_9 ?_
  refine lv_bipush (v := (8 : Int32)) hx hb dL_height_10 (by decide) ?_
  refine lv_iload_n hx hb dL_height_12 rfl (lv_at hl 1 rfl) ?_
  refine lv_bipush (v := (8 : Int32)) hx hb dL_height_13 (by decide) ?_
  refine lv_irem hx hb dL_height_15 (by decide) ?_
  refine lv_imul hx hb dL_height_16 ?_
  refine lv_lushr hx hb dL_height_17 rfl ?_
  refine lv_ldc2 (v := (255 : Int64)) hx hb hown hw1 dL_height_18 ?_
  refine lv_land hx hb dL_height_21 ?_
  refine lv_l2i hx hb dL_height_22 rfl ?_
  exact k_reti hx hb hr hlocks rfl hR hS h dL_height_23

def wp_L_raise (G : k_G) (post : k_M → Prop) (p0 : Int32) (p1 : Int32) (p2 : Int32) (p3 : Nat) (M0 : k_M) : Prop :=
  (∀ y1 : Int32, y1 = (((2 : Int32) * p0) + (p1 / (8 : Int32))) →
  (∃ n2 f3, M0 p3 = some (kJ G n2 f3) ∧ vp_in y1 n2 ∧
  (∃ n6 f7, M0 p3 = some (kJ G n6 f7) ∧ vp_in y1 n6 ∧ ∀ M8 : k_M, M8 = va_up M0 p3 (some (kJ G n6 (vp_updL f7 (y1).toNatClampNeg (((f3 (y1).toNatClampNeg) &&& (((255 : Int64) <<< ((((8 : Int32) * (p1 - p1 / (8 : Int32) * (8 : Int32)))).toInt64 &&& 63)) ^^^ (-1 : Int64))) ||| ((p2).toInt64 <<< ((((8 : Int32) * (p1 - p1 / (8 : Int32) * (8 : Int32)))).toInt64 &&& 63)))))) →
  post M8)))
set_option maxHeartbeats 4000000 in
set_option maxRecDepth 100000 in
theorem c_L_raise (l : Launch) (G : k_G) (M0 : k_M) (sz : Nat) (post : k_M → Prop) (p0 : Int32) (p1 : Int32) (p2 : Int32) (p3 : Nat) (h : wp_L_raise G post p0 p1 p2 p3 M0) : Met l yL_raise wsL_raise ({ frames := 0, cells := 0, slots := 0, locals := 0 }) (va_Pc [.int p0, .int p1, .int p2, .ref p3] (kPre G M0 sz)) (va_Qv post (kB G M0 sz) (kA M0 sz)) 0 0 (kA M0 sz) := by
  refine Met.ofW (cc := cL_raise) (maxL := 5) (ret := none) (by decide) rfl ?_
  intro p e s m args below meth c s₁ B hml hv
  obtain ⟨rfl, hsz, hR, hE⟩ := hv
  have hx := B.exec
  have hb := B.bytes
  have hr := B.returns
  have hts := atoms_spec (ws := wsL_raise) B.pre
  have hown : s.vm.findClass RL = some m.cls := findClass_of_methodNamed B.named
  have hlocks := B.notSynchronized
  subst hsz
  have hK := hE.1
  have hA : ∀ q, s.heap.size ≤ q → kA M0 s.heap.size q := kA.new
  have hS : va_S (kA M0 s.heap.size) s.heap s.heap [] := va_S.rf
  have hw1 := hts (.constantLong RL 10 (255)) (by decide +kernel)
  have hw2 := hts (.constantLong RL 12 (-1)) (by decide +kernel)
  have hl := lv_entry ([.int p0, .int p1, .int p2, .ref p3]) (n := 5) (Nat.le_of_ble_eq_true rfl)
  rw [lg_entry_eq]
  generalize (lg_sl ([.int p0, .int p1, .int p2, .ref p3]) ++ List.replicate (5 - (lg_sl ([.int p0, .int p1, .int p2, .ref p3])).length) Slot.unset).toArray = ls at hl ⊢
  have hl : lv_has ls 5 [(0, .int p0), (1, .int p1), (2, .int p2), (3, .ref p3)] := hl
  have hR0 := hR
  refine lv_iconst (v := (2 : Int32)) hx hb dL_raise_0 (by decide) ?_
  refine lv_iload_n hx hb dL_raise_1 rfl (lv_at hl 0 rfl) ?_
  refine lv_imul hx hb dL_raise_2 ?_
  refine lv_iload_n hx hb dL_raise_3 rfl (lv_at hl 1 rfl) ?_
  refine lv_bipush (v := (8 : Int32)) hx hb dL_raise_4 (by decide) ?_
  refine lv_idiv hx hb dL_raise_6 (by decide) ?_
  refine lv_iadd hx hb dL_raise_7 ?_
  refine lv_topi (fun y1 ey1 => ?_)
  replace h := h y1 ey1
  refine lv_istore (lv' := [(4, .int y1), (0, .int p0), (1, .int p1), (2, .int p2), (3, .ref p3)]) hx hb dL_raise_8 hl (by decide) rfl (fun ls hl => ?_)
  refine lv_aload_n hx hb dL_raise_10 rfl (lv_at hl 4 rfl) ?_
  refine lv_iload hx hb dL_raise_11 (lv_at hl 0 rfl) ?_
  refine lv_aload_n hx hb dL_raise_13 rfl (lv_at hl 4 rfl) ?_
  refine lv_iload hx hb dL_raise_14 (lv_at hl 0 rfl) ?_
  obtain ⟨n2, f3, hm4, hv5, h⟩ := h
  refine k_lald hx hb hK hR hm4 hv5 dL_raise_16 ?_
  refine lv_ldc2 (v := (255 : Int64)) hx hb hown hw1 dL_raise_17 ?_
  refine lv_bipush (v := (8 : Int32)) hx hb dL_raise_20 (by decide) ?_
  refine lv_iload_n hx hb dL_raise_22 rfl (lv_at hl 2 rfl) ?_
  refine lv_bipush (v := (8 : Int32)) hx hb dL_raise_23 (by decide) ?_
  refine lv_irem hx hb dL_raise_25 (by decide) ?_
  refine lv_imul hx hb dL_raise_26 ?_
  refine lv_lshl hx hb dL_raise_27 rfl ?_
  refine lv_ldc2 (v := (-1 : Int64)) hx hb hown hw2 dL_raise_28 ?_
  refine lv_lxor hx hb dL_raise_31 ?_
  refine lv_land hx hb dL_raise_32 ?_
  refine lv_iload_n hx hb dL_raise_33 rfl (lv_at hl 3 rfl) ?_
  refine lv_i2l hx hb dL_raise_34 rfl ?_
  refine lv_bipush (v := (8 : Int32)) hx hb dL_raise_35 (by decide) ?_
  refine lv_iload_n hx hb dL_raise_37 rfl (lv_at hl 2 rfl) ?_
  refine lv_bipush (v := (8 : Int32)) hx hb dL_raise_38 (by decide) ?_
  refine lv_irem hx hb dL_raise_40 (by decide) ?_
  refine lv_imul hx hb dL_raise_41 ?_
  refine lv_lshl hx hb dL_raise_42 rfl ?_
  refine lv_lor hx hb dL_raise_43 ?_
  obtain ⟨n6, f7, hm9, hv10, h⟩ := h
  replace h := h _ rfl
  refine k_last hx hb hK hR hS hm9 hv10 dL_raise_44 (fun H locs hR hS => ?_)
  exact k_retv hx hb hr hlocks hR hS h dL_raise_45

def wp_L_order_b38 (G : k_G) (post : Int32 → k_M → Prop) (K8 : Int32 → Int32 → Nat → Int32 → Int32 → Int32 → k_M → Prop) (x0 : Int32) (x1 : Int32) (x2 : Nat) (x4 : Int32) (x5 : Int32) (s0 : Int32) (s1 : Int32) (M : k_M) : Prop :=
  wp_L_height G (fun r8 M9 =>
    wp_L_height G (fun r11 M12 =>
    ((r8 ≤ r11 →
    K8 x0 x1 x2 (s1 ||| s0) (x4 ||| (0 : Int32)) (x5 + (1 : Int32)) M12) ∧
    (¬ r8 ≤ r11 →
    K8 x0 x1 x2 (s1 ||| s0) (x4 ||| (2 : Int32)) (x5 + (1 : Int32)) M12))) x1 x5 x2 M9) x0 x5 x2 M
def wp_L_order_L8 (G : k_G) (post : Int32 → k_M → Prop) : Nat → Int32 → Int32 → Nat → Int32 → Int32 → Int32 → k_M → Prop
  | 0 => fun _ _ _ _ _ _ _ => False
  | n + 1 => fun x0 x1 x2 x3 x4 x5 M =>
  (((16 : Int32) ≤ x5 →
      post (x3 + x4) M) ∧
      (¬ (16 : Int32) ≤ x5 →
      wp_L_height G (fun r2 M3 =>
        wp_L_height G (fun r5 M6 =>
        ((r5 ≤ r2 →
        wp_L_order_b38 G post (wp_L_order_L8 G post n) x0 x1 x2 x4 x5 (0 : Int32) x3 M6) ∧
        (¬ r5 ≤ r2 →
        wp_L_order_b38 G post (wp_L_order_L8 G post n) x0 x1 x2 x4 x5 (1 : Int32) x3 M6))) x1 x5 x2 M3) x0 x5 x2 M))
def wp_L_order (G : k_G) (post : Int32 → k_M → Prop) (p0 : Int32) (p1 : Int32) (p2 : Nat) (M0 : k_M) : Prop :=
  ∃ k1, wp_L_order_L8 G post k1 p0 p1 p2 (0 : Int32) (0 : Int32) (0 : Int32) M0
set_option maxHeartbeats 4000000 in
set_option maxRecDepth 100000 in
theorem c_L_order (l : Launch) (G : k_G) (M0 : k_M) (sz : Nat) (post : Int32 → k_M → Prop) (p0 : Int32) (p1 : Int32) (p2 : Nat) (h : wp_L_order G post p0 p1 p2 M0) : Met l yL_order wsL_order ({ frames := 1, cells := 0, slots := 0, locals := 22 }) (va_Pc [.int p0, .int p1, .ref p2] (kPre G M0 sz)) (va_Qi post (kB G M0 sz) (kA M0 sz)) 0 0 (kA M0 sz) := by
  refine Met.ofW (cc := cL_order) (maxL := 6) (ret := (some .int)) (by decide) rfl ?_
  intro p e s m args below meth c s₁ B hml hv
  obtain ⟨rfl, hsz, hR, hE⟩ := hv
  have hx := B.exec
  have hb := B.bytes
  have hr := B.returns
  have hts := atoms_spec (ws := wsL_order) B.pre
  have hown : s.vm.findClass RL = some m.cls := findClass_of_methodNamed B.named
  have hlocks := B.notSynchronized
  subst hsz
  have hK := hE.1
  have hA : ∀ q, s.heap.size ≤ q → kA M0 s.heap.size q := kA.new
  have hS : va_S (kA M0 s.heap.size) s.heap s.heap [] := va_S.rf
  have b38 : ∀ (K8 : Int32 → Int32 → Nat → Int32 → Int32 → Int32 → k_M → Prop) (hK8 : ∀ (x0 : Int32) (x1 : Int32) (x2 : Nat) (x3 : Int32) (x4 : Int32) (x5 : Int32) (M : k_M) (H : Heap) (locs : List Loc) (ls : Array Slot), K8 x0 x1 x2 x3 x4 x5 M → lv_has ls 6 [(0, .int x0), (1, .int x1), (2, .ref x2), (3, .int x3), (4, .int x4), (5, .int x5)] → kR G M (kA M0 s.heap.size) H → va_S (kA M0 s.heap.size) s.heap H locs → W p l e (headSpec wsL_order ({ frames := 1, cells := 0, slots := 0, locals := 22 })).room s m ([.int p0, .int p1, .ref p2] : List Value).toArray below meth c H locs 0 0 (MQ below (va_Qi post (kB G M0 s.heap.size) (kA M0 s.heap.size)) ([.int p0, .int p1, .ref p2] : List Value).toArray s 0 0 (kA M0 s.heap.size)) (F0 m 8 ls [])), ∀ (x0 : Int32) (x1 : Int32) (x2 : Nat) (x4 : Int32) (x5 : Int32) (s0 : Int32) (s1 : Int32) (M : k_M) (H : Heap) (locs : List Loc) (ls : Array Slot), wp_L_order_b38 G post K8 x0 x1 x2 x4 x5 s0 s1 M → lv_has ls 6 [(0, .int x0), (1, .int x1), (2, .ref x2), (4, .int x4), (5, .int x5)] → kR G M (kA M0 s.heap.size) H → va_S (kA M0 s.heap.size) s.heap H locs → W p l e (headSpec wsL_order ({ frames := 1, cells := 0, slots := 0, locals := 22 })).room s m ([.int p0, .int p1, .ref p2] : List Value).toArray below meth c H locs 0 0 (MQ below (va_Qi post (kB G M0 s.heap.size) (kA M0 s.heap.size)) ([.int p0, .int p1, .ref p2] : List Value).toArray s 0 0 (kA M0 s.heap.size)) (F0 m 38 ls [.int s0, .int s1]) := by
    intro K8 hK8 x0 x1 x2 x4 x5 s0 s1 M H locs ls h hl hR hS
    refine lv_ior hx hb dL_order_38 ?_
    refine lv_istore_n (lv' := [(3, .int (s1 ||| s0)), (0, .int x0), (1, .int x1), (2, .ref x2), (4, .int x4), (5, .int x5)]) hx hb dL_order_39 rfl hl (by decide) rfl (fun ls hl => ?_)
    refine lv_iload hx hb dL_order_40 (lv_at hl 4 rfl) ?_
    refine lv_iload_n hx hb dL_order_42 rfl (lv_at hl 1 rfl) ?_
    refine lv_iload hx hb dL_order_43 (lv_at hl 5 rfl) ?_
    refine lv_aload_n hx hb dL_order_45 rfl (lv_at hl 3 rfl) ?_
    refine k_calli0 (va_runS (As := [.int x0, .int x5, .ref x2]) (rest := [.int x4]) ⟨hx, hb, hml, hown, hts⟩ (c_L_height l G _ _ _ x0 x5 x2 h) (va_cwS 3 hts gL_order_L_height rfl rfl rfl (by decide +kernel) ⟨Nat.le_of_ble_eq_true rfl, Nat.le_of_ble_eq_true rfl⟩) (k_preS hR hS hA hE) rfl rfl hl.1 rfl (lv_room (Nat.le_of_ble_eq_true rfl)) dL_order_46 ⟨Nat.zero_le _, Nat.zero_le _⟩) hR hS hA (fun r8 M9 H locs h hR hS => ?_)
    refine lv_iload_n hx hb dL_order_49 rfl (lv_at hl 2 rfl) ?_
    refine lv_iload hx hb dL_order_50 (lv_at hl 5 rfl) ?_
    refine lv_aload_n hx hb dL_order_52 rfl (lv_at hl 3 rfl) ?_
    refine k_calli0 (va_runS (As := [.int x1, .int x5, .ref x2]) (rest := [.int r8, .int x4]) ⟨hx, hb, hml, hown, hts⟩ (c_L_height l G _ _ _ x1 x5 x2 h) (va_cwS 3 hts gL_order_L_height rfl rfl rfl (by decide +kernel) ⟨Nat.le_of_ble_eq_true rfl, Nat.le_of_ble_eq_true rfl⟩) (k_preS hR hS hA hE) rfl rfl hl.1 rfl (lv_room (Nat.le_of_ble_eq_true rfl)) dL_order_53 ⟨Nat.zero_le _, Nat.zero_le _⟩) hR hS hA (fun r11 M12 H locs h hR hS => ?_)
    obtain ⟨ha, hb2⟩ := h
    refine lv_icmp_le (tgt := 63) hx hb dL_order_56 (by decide) (fun hc => ?_) (fun hc => ?_)
    · replace h := ha hc
      refine lv_iconst (v := (0 : Int32)) hx hb dL_order_63 (by decide) ?_
      refine lv_ior hx hb dL_order_64 ?_
      refine lv_istore (lv' := [(4, .int (x4 ||| (0 : Int32))), (3, .int (s1 ||| s0)), (0, .int x0), (1, .int x1), (2, .ref x2), (5, .int x5)]) hx hb dL_order_65 hl (by decide) rfl (fun ls hl => ?_)
      refine lv_iinc (v := (x5 + (1 : Int32))) (lv' := [(5, .int (x5 + (1 : Int32))), (4, .int (x4 ||| (0 : Int32))), (3, .int (s1 ||| s0)), (0, .int x0), (1, .int x1), (2, .ref x2)]) hx hb dL_order_67 hl (k := 5) rfl rfl (by decide) rfl (fun ls hl => ?_)
      refine lv_goto (tgt := 8) hx hb dL_order_70 (by decide) ?_
      exact hK8 _ _ _ _ _ _ _ _ _ _ h (lv_sub hl [3, 4, 5, 2, 1, 0] rfl) hR hS
    · replace h := hb2 hc
      refine lv_iconst (v := (2 : Int32)) hx hb dL_order_59 (by decide) ?_
      refine lv_goto (tgt := 64) hx hb dL_order_60 (by decide) ?_
      refine lv_ior hx hb dL_order_64 ?_
      refine lv_istore (lv' := [(4, .int (x4 ||| (2 : Int32))), (3, .int (s1 ||| s0)), (0, .int x0), (1, .int x1), (2, .ref x2), (5, .int x5)]) hx hb dL_order_65 hl (by decide) rfl (fun ls hl => ?_)
      refine lv_iinc (v := (x5 + (1 : Int32))) (lv' := [(5, .int (x5 + (1 : Int32))), (4, .int (x4 ||| (2 : Int32))), (3, .int (s1 ||| s0)), (0, .int x0), (1, .int x1), (2, .ref x2)]) hx hb dL_order_67 hl (k := 5) rfl rfl (by decide) rfl (fun ls hl => ?_)
      refine lv_goto (tgt := 8) hx hb dL_order_70 (by decide) ?_
      exact hK8 _ _ _ _ _ _ _ _ _ _ h (lv_sub hl [3, 4, 5, 2, 1, 0] rfl) hR hS
  have L8 : ∀ (n : Nat), ∀ (x0 : Int32) (x1 : Int32) (x2 : Nat) (x3 : Int32) (x4 : Int32) (x5 : Int32) (M : k_M) (H : Heap) (locs : List Loc) (ls : Array Slot), wp_L_order_L8 G post n x0 x1 x2 x3 x4 x5 M → lv_has ls 6 [(0, .int x0), (1, .int x1), (2, .ref x2), (3, .int x3), (4, .int x4), (5, .int x5)] → kR G M (kA M0 s.heap.size) H → va_S (kA M0 s.heap.size) s.heap H locs → W p l e (headSpec wsL_order ({ frames := 1, cells := 0, slots := 0, locals := 22 })).room s m ([.int p0, .int p1, .ref p2] : List Value).toArray below meth c H locs 0 0 (MQ below (va_Qi post (kB G M0 s.heap.size) (kA M0 s.heap.size)) ([.int p0, .int p1, .ref p2] : List Value).toArray s 0 0 (kA M0 s.heap.size)) (F0 m 8 ls []) := by
    intro n
    induction n with
    | zero =>
      intro  x0 x1 x2 x3 x4 x5 M H locs ls h
      exact False.elim h
    | succ n ih =>
      intro  x0 x1 x2 x3 x4 x5 M H locs ls h hl hR hS
      refine lv_iload hx hb dL_order_8 (lv_at hl 5 rfl) ?_
      refine lv_bipush (v := (16 : Int32)) hx hb dL_order_10 (by decide) ?_
      obtain ⟨ha, hb2⟩ := h
      refine lv_icmp_ge (tgt := 73) hx hb dL_order_12 (by decide) (fun hc => ?_) (fun hc => ?_)
      · replace h := ha hc
        refine lv_iload_n hx hb dL_order_73 rfl (lv_at hl 3 rfl) ?_
        refine lv_iload hx hb dL_order_74 (lv_at hl 4 rfl) ?_
        refine lv_iadd hx hb dL_order_76 ?_
        exact k_reti hx hb hr hlocks rfl hR hS h dL_order_77
      · replace h := hb2 hc
        refine lv_iload_n hx hb dL_order_15 rfl (lv_at hl 3 rfl) ?_
        refine lv_iload_n hx hb dL_order_16 rfl (lv_at hl 0 rfl) ?_
        refine lv_iload hx hb dL_order_17 (lv_at hl 5 rfl) ?_
        refine lv_aload_n hx hb dL_order_19 rfl (lv_at hl 2 rfl) ?_
        refine k_calli0 (va_runS (As := [.int x0, .int x5, .ref x2]) (rest := [.int x3]) ⟨hx, hb, hml, hown, hts⟩ (c_L_height l G _ _ _ x0 x5 x2 h) (va_cwS 3 hts gL_order_L_height rfl rfl rfl (by decide +kernel) ⟨Nat.le_of_ble_eq_true rfl, Nat.le_of_ble_eq_true rfl⟩) (k_preS hR hS hA hE) rfl rfl hl.1 rfl (lv_room (Nat.le_of_ble_eq_true rfl)) dL_order_20 ⟨Nat.zero_le _, Nat.zero_le _⟩) hR hS hA (fun r2 M3 H locs h hR hS => ?_)
        refine lv_iload_n hx hb dL_order_23 rfl (lv_at hl 1 rfl) ?_
        refine lv_iload hx hb dL_order_24 (lv_at hl 5 rfl) ?_
        refine lv_aload_n hx hb dL_order_26 rfl (lv_at hl 2 rfl) ?_
        refine k_calli0 (va_runS (As := [.int x1, .int x5, .ref x2]) (rest := [.int r2, .int x3]) ⟨hx, hb, hml, hown, hts⟩ (c_L_height l G _ _ _ x1 x5 x2 h) (va_cwS 3 hts gL_order_L_height rfl rfl rfl (by decide +kernel) ⟨Nat.le_of_ble_eq_true rfl, Nat.le_of_ble_eq_true rfl⟩) (k_preS hR hS hA hE) rfl rfl hl.1 rfl (lv_room (Nat.le_of_ble_eq_true rfl)) dL_order_27 ⟨Nat.zero_le _, Nat.zero_le _⟩) hR hS hA (fun r5 M6 H locs h hR hS => ?_)
        obtain ⟨ha, hb2⟩ := h
        refine lv_icmp_ge (tgt := 37) hx hb dL_order_30 (by decide) (fun hc => ?_) (fun hc => ?_)
        · replace h := ha hc
          refine lv_iconst (v := (0 : Int32)) hx hb dL_order_37 (by decide) ?_
          exact b38 _ ih _ _ _ _ _ _ _ _ _ _ _ h (lv_sub hl [0, 1, 2, 4, 5] rfl) hR hS
        · replace h := hb2 hc
          refine lv_iconst (v := (1 : Int32)) hx hb dL_order_33 (by decide) ?_
          refine lv_goto (tgt := 38) hx hb dL_order_34 (by decide) ?_
          exact b38 _ ih _ _ _ _ _ _ _ _ _ _ _ h (lv_sub hl [0, 1, 2, 4, 5] rfl) hR hS
  have hl := lv_entry ([.int p0, .int p1, .ref p2]) (n := 6) (Nat.le_of_ble_eq_true rfl)
  rw [lg_entry_eq]
  generalize (lg_sl ([.int p0, .int p1, .ref p2]) ++ List.replicate (6 - (lg_sl ([.int p0, .int p1, .ref p2])).length) Slot.unset).toArray = ls at hl ⊢
  have hl : lv_has ls 6 [(0, .int p0), (1, .int p1), (2, .ref p2)] := hl
  have hR0 := hR
  refine lv_iconst (v := (0 : Int32)) hx hb dL_order_0 (by decide) ?_
  refine lv_istore_n (lv' := [(3, .int (0 : Int32)), (0, .int p0), (1, .int p1), (2, .ref p2)]) hx hb dL_order_1 rfl hl (by decide) rfl (fun ls hl => ?_)
  refine lv_iconst (v := (0 : Int32)) hx hb dL_order_2 (by decide) ?_
  refine lv_istore (lv' := [(4, .int (0 : Int32)), (3, .int (0 : Int32)), (0, .int p0), (1, .int p1), (2, .ref p2)]) hx hb dL_order_3 hl (by decide) rfl (fun ls hl => ?_)
  refine lv_iconst (v := (0 : Int32)) hx hb dL_order_5 (by decide) ?_
  refine lv_istore (lv' := [(5, .int (0 : Int32)), (4, .int (0 : Int32)), (3, .int (0 : Int32)), (0, .int p0), (1, .int p1), (2, .ref p2)]) hx hb dL_order_6 hl (by decide) rfl (fun ls hl => ?_)
  obtain ⟨k1, h⟩ := h
  exact L8 k1 _ _ _ _ _ _ _ _ _ _ h (lv_sub hl [3, 4, 5, 2, 1, 0] rfl) hR hS

def wp_L_take_L3 (G : k_G) (post : k_M → Prop) : Nat → Int32 → Int32 → Nat → Nat → Int32 → k_M → Prop
  | 0 => fun _ _ _ _ _ _ => False
  | n + 1 => fun x0 x1 x2 x3 x4 M =>
  (((16 : Int32) ≤ x4 →
      (∃ n2 f3, M x3 = some (kJ G n2 f3) ∧ vp_in x0 n2 ∧
        (∃ n6 f7, M x3 = some (kJ G n6 f7) ∧ vp_in x1 n6 ∧
        (∃ n10 f11, M x3 = some (kJ G n10 f11) ∧ vp_in x0 n10 ∧ ∀ M12 : k_M, M12 = va_up M x3 (some (kJ G n10 (vp_updL f11 (x0).toNatClampNeg ((f3 (x0).toNatClampNeg) ||| (f7 (x1).toNatClampNeg))))) →
        post M12)))) ∧
      (¬ (16 : Int32) ≤ x4 →
      wp_L_height G (fun r15 M16 =>
        wp_L_height G (fun r18 M19 =>
        ((r15 ≤ r18 →
        (wp_L_take_L3 G post n) x0 x1 x2 x3 (x4 + (1 : Int32)) M19) ∧
        (¬ r15 ≤ r18 →
        wp_L_height G (fun r21 M22 =>
          wp_L_raise G (fun M25 =>
          (wp_L_take_L3 G post n) x0 x1 x2 x3 (x4 + (1 : Int32)) M25) x0 x4 r21 x2 M22) x1 x4 x2 M19))) x0 x4 x2 M16) x1 x4 x2 M))
def wp_L_take (G : k_G) (post : k_M → Prop) (p0 : Int32) (p1 : Int32) (p2 : Nat) (p3 : Nat) (M0 : k_M) : Prop :=
  ∃ k1, wp_L_take_L3 G post k1 p0 p1 p2 p3 (0 : Int32) M0
set_option maxHeartbeats 4000000 in
set_option maxRecDepth 100000 in
theorem c_L_take (l : Launch) (G : k_G) (M0 : k_M) (sz : Nat) (post : k_M → Prop) (p0 : Int32) (p1 : Int32) (p2 : Nat) (p3 : Nat) (h : wp_L_take G post p0 p1 p2 p3 M0) : Met l yL_take wsL_take ({ frames := 1, cells := 0, slots := 0, locals := 24 }) (va_Pc [.int p0, .int p1, .ref p2, .ref p3] (kPre G M0 sz)) (va_Qv post (kB G M0 sz) (kA M0 sz)) 0 0 (kA M0 sz) := by
  refine Met.ofW (cc := cL_take) (maxL := 5) (ret := none) (by decide) rfl ?_
  intro p e s m args below meth c s₁ B hml hv
  obtain ⟨rfl, hsz, hR, hE⟩ := hv
  have hx := B.exec
  have hb := B.bytes
  have hr := B.returns
  have hts := atoms_spec (ws := wsL_take) B.pre
  have hown : s.vm.findClass RL = some m.cls := findClass_of_methodNamed B.named
  have hlocks := B.notSynchronized
  subst hsz
  have hK := hE.1
  have hA : ∀ q, s.heap.size ≤ q → kA M0 s.heap.size q := kA.new
  have hS : va_S (kA M0 s.heap.size) s.heap s.heap [] := va_S.rf
  have L3 : ∀ (n : Nat), ∀ (x0 : Int32) (x1 : Int32) (x2 : Nat) (x3 : Nat) (x4 : Int32) (M : k_M) (H : Heap) (locs : List Loc) (ls : Array Slot), wp_L_take_L3 G post n x0 x1 x2 x3 x4 M → lv_has ls 5 [(0, .int x0), (1, .int x1), (2, .ref x2), (3, .ref x3), (4, .int x4)] → kR G M (kA M0 s.heap.size) H → va_S (kA M0 s.heap.size) s.heap H locs → W p l e (headSpec wsL_take ({ frames := 1, cells := 0, slots := 0, locals := 24 })).room s m ([.int p0, .int p1, .ref p2, .ref p3] : List Value).toArray below meth c H locs 0 0 (MQ below (va_Qv post (kB G M0 s.heap.size) (kA M0 s.heap.size)) ([.int p0, .int p1, .ref p2, .ref p3] : List Value).toArray s 0 0 (kA M0 s.heap.size)) (F0 m 3 ls []) := by
    intro n
    induction n with
    | zero =>
      intro  x0 x1 x2 x3 x4 M H locs ls h
      exact False.elim h
    | succ n ih =>
      intro  x0 x1 x2 x3 x4 M H locs ls h hl hR hS
      refine lv_iload hx hb dL_take_3 (lv_at hl 4 rfl) ?_
      refine lv_bipush (v := (16 : Int32)) hx hb dL_take_5 (by decide) ?_
      obtain ⟨ha, hb2⟩ := h
      refine lv_icmp_ge (tgt := 47) hx hb dL_take_7 (by decide) (fun hc => ?_) (fun hc => ?_)
      · replace h := ha hc
        refine lv_aload_n hx hb dL_take_47 rfl (lv_at hl 3 rfl) ?_
        refine lv_iload_n hx hb dL_take_48 rfl (lv_at hl 0 rfl) ?_
        refine lv_dup2_11 hx hb dL_take_49 rfl rfl ?_
        obtain ⟨n2, f3, hm4, hv5, h⟩ := h
        refine k_lald hx hb hK hR hm4 hv5 dL_take_50 ?_
        refine lv_aload_n hx hb dL_take_51 rfl (lv_at hl 3 rfl) ?_
        refine lv_iload_n hx hb dL_take_52 rfl (lv_at hl 1 rfl) ?_
        obtain ⟨n6, f7, hm8, hv9, h⟩ := h
        refine k_lald hx hb hK hR hm8 hv9 dL_take_53 ?_
        refine lv_lor hx hb dL_take_54 ?_
        obtain ⟨n10, f11, hm13, hv14, h⟩ := h
        replace h := h _ rfl
        refine k_last hx hb hK hR hS hm13 hv14 dL_take_55 (fun H locs hR hS => ?_)
        exact k_retv hx hb hr hlocks hR hS h dL_take_56
      · replace h := hb2 hc
        refine lv_iload_n hx hb dL_take_10 rfl (lv_at hl 1 rfl) ?_
        refine lv_iload hx hb dL_take_11 (lv_at hl 4 rfl) ?_
        refine lv_aload_n hx hb dL_take_13 rfl (lv_at hl 2 rfl) ?_
        refine k_calli0 (va_runS (As := [.int x1, .int x4, .ref x2]) (rest := []) ⟨hx, hb, hml, hown, hts⟩ (c_L_height l G _ _ _ x1 x4 x2 h) (va_cwS 3 hts gL_take_L_height rfl rfl rfl (by decide +kernel) ⟨Nat.le_of_ble_eq_true rfl, Nat.le_of_ble_eq_true rfl⟩) (k_preS hR hS hA hE) rfl rfl hl.1 rfl (lv_room (Nat.le_of_ble_eq_true rfl)) dL_take_14 ⟨Nat.zero_le _, Nat.zero_le _⟩) hR hS hA (fun r15 M16 H locs h hR hS => ?_)
        refine lv_iload_n hx hb dL_take_17 rfl (lv_at hl 0 rfl) ?_
        refine lv_iload hx hb dL_take_18 (lv_at hl 4 rfl) ?_
        refine lv_aload_n hx hb dL_take_20 rfl (lv_at hl 2 rfl) ?_
        refine k_calli0 (va_runS (As := [.int x0, .int x4, .ref x2]) (rest := [.int r15]) ⟨hx, hb, hml, hown, hts⟩ (c_L_height l G _ _ _ x0 x4 x2 h) (va_cwS 3 hts gL_take_L_height rfl rfl rfl (by decide +kernel) ⟨Nat.le_of_ble_eq_true rfl, Nat.le_of_ble_eq_true rfl⟩) (k_preS hR hS hA hE) rfl rfl hl.1 rfl (lv_room (Nat.le_of_ble_eq_true rfl)) dL_take_21 ⟨Nat.zero_le _, Nat.zero_le _⟩) hR hS hA (fun r18 M19 H locs h hR hS => ?_)
        obtain ⟨ha, hb2⟩ := h
        refine lv_icmp_le (tgt := 41) hx hb dL_take_24 (by decide) (fun hc => ?_) (fun hc => ?_)
        · replace h := ha hc
          refine lv_iinc (v := (x4 + (1 : Int32))) (lv' := [(4, .int (x4 + (1 : Int32))), (0, .int x0), (1, .int x1), (2, .ref x2), (3, .ref x3)]) hx hb dL_take_41 hl (k := 4) rfl rfl (by decide) rfl (fun ls hl => ?_)
          refine lv_goto (tgt := 3) hx hb dL_take_44 (by decide) ?_
          exact ih _ _ _ _ _ _ _ _ _ h (lv_sub hl [1, 2, 3, 4, 0] rfl) hR hS
        · replace h := hb2 hc
          refine lv_iload_n hx hb dL_take_27 rfl (lv_at hl 0 rfl) ?_
          refine lv_iload hx hb dL_take_28 (lv_at hl 4 rfl) ?_
          refine lv_iload_n hx hb dL_take_30 rfl (lv_at hl 1 rfl) ?_
          refine lv_iload hx hb dL_take_31 (lv_at hl 4 rfl) ?_
          refine lv_aload_n hx hb dL_take_33 rfl (lv_at hl 2 rfl) ?_
          refine k_calli0 (va_runS (As := [.int x1, .int x4, .ref x2]) (rest := [.int x4, .int x0]) ⟨hx, hb, hml, hown, hts⟩ (c_L_height l G _ _ _ x1 x4 x2 h) (va_cwS 3 hts gL_take_L_height rfl rfl rfl (by decide +kernel) ⟨Nat.le_of_ble_eq_true rfl, Nat.le_of_ble_eq_true rfl⟩) (k_preS hR hS hA hE) rfl rfl hl.1 rfl (lv_room (Nat.le_of_ble_eq_true rfl)) dL_take_34 ⟨Nat.zero_le _, Nat.zero_le _⟩) hR hS hA (fun r21 M22 H locs h hR hS => ?_)
          refine lv_aload_n hx hb dL_take_37 rfl (lv_at hl 2 rfl) ?_
          refine k_callv0 (va_runS (As := [.int x0, .int x4, .int r21, .ref x2]) (rest := []) ⟨hx, hb, hml, hown, hts⟩ (c_L_raise l G _ _ _ x0 x4 r21 x2 h) (va_cwS 4 hts gL_take_L_raise rfl rfl rfl (by decide +kernel) ⟨Nat.le_of_ble_eq_true rfl, Nat.le_of_ble_eq_true rfl⟩) (k_preS hR hS hA hE) rfl rfl hl.1 rfl (lv_room (Nat.le_of_ble_eq_true rfl)) dL_take_38 ⟨Nat.zero_le _, Nat.zero_le _⟩) hR hS hA (fun M25 H locs h hR hS => ?_)
          refine lv_iinc (v := (x4 + (1 : Int32))) (lv' := [(4, .int (x4 + (1 : Int32))), (0, .int x0), (1, .int x1), (2, .ref x2), (3, .ref x3)]) hx hb dL_take_41 hl (k := 4) rfl rfl (by decide) rfl (fun ls hl => ?_)
          refine lv_goto (tgt := 3) hx hb dL_take_44 (by decide) ?_
          exact ih _ _ _ _ _ _ _ _ _ h (lv_sub hl [1, 2, 3, 4, 0] rfl) hR hS
  have hl := lv_entry ([.int p0, .int p1, .ref p2, .ref p3]) (n := 5) (Nat.le_of_ble_eq_true rfl)
  rw [lg_entry_eq]
  generalize (lg_sl ([.int p0, .int p1, .ref p2, .ref p3]) ++ List.replicate (5 - (lg_sl ([.int p0, .int p1, .ref p2, .ref p3])).length) Slot.unset).toArray = ls at hl ⊢
  have hl : lv_has ls 5 [(0, .int p0), (1, .int p1), (2, .ref p2), (3, .ref p3)] := hl
  have hR0 := hR
  refine lv_iconst (v := (0 : Int32)) hx hb dL_take_0 (by decide) ?_
  refine lv_istore (lv' := [(4, .int (0 : Int32)), (0, .int p0), (1, .int p1), (2, .ref p2), (3, .ref p3)]) hx hb dL_take_1 hl (by decide) rfl (fun ls hl => ?_)
  obtain ⟨k1, h⟩ := h
  exact L3 k1 _ _ _ _ _ _ _ _ _ h (lv_sub hl [1, 2, 3, 4, 0] rfl) hR hS

def wp_L_tick_b120 (G : k_G) (post : k_M → Prop) (K87 : Int32 → Int32 → Nat → Int32 → Int32 → Int32 → k_M → Prop) (x0 : Int32) (x1 : Int32) (x2 : Nat) (x3 : Int32) (x4 : Int32) (x5 : Int32) (s0 : Int32) (s1 : Int32) (s2 : Int32) (M : k_M) : Prop :=
  wp_L_raise G (fun M4 =>
    K87 x0 x1 x2 x3 x4 (x5 + (1 : Int32)) M4) s2 s1 s0 x2 M
def wp_L_tick_L87 (G : k_G) (post : k_M → Prop) : Nat → Int32 → Int32 → Nat → Int32 → Int32 → Int32 → k_M → Prop
  | 0 => fun _ _ _ _ _ _ _ => False
  | n + 1 => fun x0 x1 x2 x3 x4 x5 M =>
  (((16 : Int32) ≤ x5 →
      post M) ∧
      (¬ (16 : Int32) ≤ x5 →
      ((¬ ((x1 >>> (x5 &&& 31)) &&& (1 : Int32)) = (1 : Int32) →
        (wp_L_tick_L87 G post n) x0 x1 x2 x3 x4 (x5 + (1 : Int32)) M) ∧
        (((x1 >>> (x5 &&& 31)) &&& (1 : Int32)) = (1 : Int32) →
        ((x3 ≤ x4 →
          wp_L_tick_b120 G post (wp_L_tick_L87 G post n) x0 x1 x2 x3 x4 x5 (x3 + (1 : Int32)) x5 x0 M) ∧
          (¬ x3 ≤ x4 →
          wp_L_tick_b120 G post (wp_L_tick_L87 G post n) x0 x1 x2 x3 x4 x5 x3 x5 x0 M))))))
def wp_L_tick_b51 (G : k_G) (post : k_M → Prop) (K10 : Int32 → Int32 → Nat → Int32 → Int32 → Int32 → k_M → Prop) (x0 : Int32) (x1 : Int32) (x2 : Nat) (x4 : Int32) (x5 : Int32) (s0 : Int32) (M : k_M) : Prop :=
  wp_L_height G (fun r9 M10 =>
    ((x4 ≤ r9 →
    K10 x0 x1 x2 s0 x4 (x5 + (1 : Int32)) M10) ∧
    (¬ x4 ≤ r9 →
    wp_L_height G (fun r12 M13 =>
      K10 x0 x1 x2 s0 r12 (x5 + (1 : Int32)) M13) x0 x5 x2 M10))) x0 x5 x2 M
def wp_L_tick_L10 (G : k_G) (post : k_M → Prop) : Nat → Int32 → Int32 → Nat → Int32 → Int32 → Int32 → k_M → Prop
  | 0 => fun _ _ _ _ _ _ _ => False
  | n + 1 => fun x0 x1 x2 x3 x4 x5 M =>
  (((16 : Int32) ≤ x5 →
      ∃ k2, wp_L_tick_L87 G post k2 x0 x1 x2 x3 x4 (0 : Int32) M) ∧
      (¬ (16 : Int32) ≤ x5 →
      ((¬ ((x1 >>> (x5 &&& 31)) &&& (1 : Int32)) = 0 →
        wp_L_height G (fun r6 M7 =>
          ((r6 ≤ x3 →
          wp_L_tick_b51 G post (wp_L_tick_L10 G post n) x0 x1 x2 x4 x5 x3 M7) ∧
          (¬ r6 ≤ x3 →
          wp_L_height G (fun r15 M16 =>
            wp_L_tick_b51 G post (wp_L_tick_L10 G post n) x0 x1 x2 x4 x5 r15 M16) x0 x5 x2 M7))) x0 x5 x2 M) ∧
        (((x1 >>> (x5 &&& 31)) &&& (1 : Int32)) = 0 →
        (wp_L_tick_L10 G post n) x0 x1 x2 x3 x4 (x5 + (1 : Int32)) M))))
def wp_L_tick (G : k_G) (post : k_M → Prop) (p0 : Int32) (p1 : Int32) (p2 : Nat) (M0 : k_M) : Prop :=
  ∃ k1, wp_L_tick_L10 G post k1 p0 p1 p2 (0 : Int32) (999 : Int32) (0 : Int32) M0
set_option maxHeartbeats 4000000 in
set_option maxRecDepth 100000 in
theorem c_L_tick (l : Launch) (G : k_G) (M0 : k_M) (sz : Nat) (post : k_M → Prop) (p0 : Int32) (p1 : Int32) (p2 : Nat) (h : wp_L_tick G post p0 p1 p2 M0) : Met l yL_tick wsL_tick ({ frames := 1, cells := 0, slots := 0, locals := 24 }) (va_Pc [.int p0, .int p1, .ref p2] (kPre G M0 sz)) (va_Qv post (kB G M0 sz) (kA M0 sz)) 0 0 (kA M0 sz) := by
  refine Met.ofW (cc := cL_tick) (maxL := 6) (ret := none) (by decide) rfl ?_
  intro p e s m args below meth c s₁ B hml hv
  obtain ⟨rfl, hsz, hR, hE⟩ := hv
  have hx := B.exec
  have hb := B.bytes
  have hr := B.returns
  have hts := atoms_spec (ws := wsL_tick) B.pre
  have hown : s.vm.findClass RL = some m.cls := findClass_of_methodNamed B.named
  have hlocks := B.notSynchronized
  subst hsz
  have hK := hE.1
  have hA : ∀ q, s.heap.size ≤ q → kA M0 s.heap.size q := kA.new
  have hS : va_S (kA M0 s.heap.size) s.heap s.heap [] := va_S.rf
  have b120 : ∀ (K87 : Int32 → Int32 → Nat → Int32 → Int32 → Int32 → k_M → Prop) (hK87 : ∀ (x0 : Int32) (x1 : Int32) (x2 : Nat) (x3 : Int32) (x4 : Int32) (x5 : Int32) (M : k_M) (H : Heap) (locs : List Loc) (ls : Array Slot), K87 x0 x1 x2 x3 x4 x5 M → lv_has ls 6 [(0, .int x0), (1, .int x1), (2, .ref x2), (3, .int x3), (4, .int x4), (5, .int x5)] → kR G M (kA M0 s.heap.size) H → va_S (kA M0 s.heap.size) s.heap H locs → W p l e (headSpec wsL_tick ({ frames := 1, cells := 0, slots := 0, locals := 24 })).room s m ([.int p0, .int p1, .ref p2] : List Value).toArray below meth c H locs 0 0 (MQ below (va_Qv post (kB G M0 s.heap.size) (kA M0 s.heap.size)) ([.int p0, .int p1, .ref p2] : List Value).toArray s 0 0 (kA M0 s.heap.size)) (F0 m 87 ls [])), ∀ (x0 : Int32) (x1 : Int32) (x2 : Nat) (x3 : Int32) (x4 : Int32) (x5 : Int32) (s0 : Int32) (s1 : Int32) (s2 : Int32) (M : k_M) (H : Heap) (locs : List Loc) (ls : Array Slot), wp_L_tick_b120 G post K87 x0 x1 x2 x3 x4 x5 s0 s1 s2 M → lv_has ls 6 [(0, .int x0), (1, .int x1), (2, .ref x2), (3, .int x3), (4, .int x4), (5, .int x5)] → kR G M (kA M0 s.heap.size) H → va_S (kA M0 s.heap.size) s.heap H locs → W p l e (headSpec wsL_tick ({ frames := 1, cells := 0, slots := 0, locals := 24 })).room s m ([.int p0, .int p1, .ref p2] : List Value).toArray below meth c H locs 0 0 (MQ below (va_Qv post (kB G M0 s.heap.size) (kA M0 s.heap.size)) ([.int p0, .int p1, .ref p2] : List Value).toArray s 0 0 (kA M0 s.heap.size)) (F0 m 120 ls [.int s0, .int s1, .int s2]) := by
    intro K87 hK87 x0 x1 x2 x3 x4 x5 s0 s1 s2 M H locs ls h hl hR hS
    refine lv_aload_n hx hb dL_tick_120 rfl (lv_at hl 2 rfl) ?_
    refine k_callv0 (va_runS (As := [.int s2, .int s1, .int s0, .ref x2]) (rest := []) ⟨hx, hb, hml, hown, hts⟩ (c_L_raise l G _ _ _ s2 s1 s0 x2 h) (va_cwS 4 hts gL_tick_L_raise rfl rfl rfl (by decide +kernel) ⟨Nat.le_of_ble_eq_true rfl, Nat.le_of_ble_eq_true rfl⟩) (k_preS hR hS hA hE) rfl rfl hl.1 rfl (lv_room (Nat.le_of_ble_eq_true rfl)) dL_tick_121 ⟨Nat.zero_le _, Nat.zero_le _⟩) hR hS hA (fun M4 H locs h hR hS => ?_)
    refine lv_iinc (v := (x5 + (1 : Int32))) (lv' := [(5, .int (x5 + (1 : Int32))), (0, .int x0), (1, .int x1), (2, .ref x2), (3, .int x3), (4, .int x4)]) hx hb dL_tick_124 hl (k := 5) rfl rfl (by decide) rfl (fun ls hl => ?_)
    refine lv_goto (tgt := 87) hx hb dL_tick_127 (by decide) ?_
    exact hK87 _ _ _ _ _ _ _ _ _ _ h (lv_sub hl [1, 2, 3, 4, 5, 0] rfl) hR hS
  have L87 : ∀ (n : Nat), ∀ (x0 : Int32) (x1 : Int32) (x2 : Nat) (x3 : Int32) (x4 : Int32) (x5 : Int32) (M : k_M) (H : Heap) (locs : List Loc) (ls : Array Slot), wp_L_tick_L87 G post n x0 x1 x2 x3 x4 x5 M → lv_has ls 6 [(0, .int x0), (1, .int x1), (2, .ref x2), (3, .int x3), (4, .int x4), (5, .int x5)] → kR G M (kA M0 s.heap.size) H → va_S (kA M0 s.heap.size) s.heap H locs → W p l e (headSpec wsL_tick ({ frames := 1, cells := 0, slots := 0, locals := 24 })).room s m ([.int p0, .int p1, .ref p2] : List Value).toArray below meth c H locs 0 0 (MQ below (va_Qv post (kB G M0 s.heap.size) (kA M0 s.heap.size)) ([.int p0, .int p1, .ref p2] : List Value).toArray s 0 0 (kA M0 s.heap.size)) (F0 m 87 ls []) := by
    intro n
    induction n with
    | zero =>
      intro  x0 x1 x2 x3 x4 x5 M H locs ls h
      exact False.elim h
    | succ n ih =>
      intro  x0 x1 x2 x3 x4 x5 M H locs ls h hl hR hS
      refine lv_iload hx hb dL_tick_87 (lv_at hl 5 rfl) ?_
      refine lv_bipush (v := (16 : Int32)) hx hb dL_tick_89 (by decide) ?_
      obtain ⟨ha, hb2⟩ := h
      refine lv_icmp_ge (tgt := 130) hx hb dL_tick_91 (by decide) (fun hc => ?_) (fun hc => ?_)
      · replace h := ha hc
        exact k_retv hx hb hr hlocks hR hS h dL_tick_130
      · replace h := hb2 hc
        refine lv_iload_n hx hb dL_tick_94 rfl (lv_at hl 1 rfl) ?_
        refine lv_iload hx hb dL_tick_95 (lv_at hl 5 rfl) ?_
        refine lv_ishr hx hb dL_tick_97 ?_
        refine lv_iconst (v := (1 : Int32)) hx hb dL_tick_98 (by decide) ?_
        refine lv_iand hx hb dL_tick_99 ?_
        refine lv_iconst (v := (1 : Int32)) hx hb dL_tick_100 (by decide) ?_
        obtain ⟨ha, hb2⟩ := h
        refine lv_icmp_ne (tgt := 124) hx hb dL_tick_101 (by decide) (fun hc => ?_) (fun hc => ?_)
        · replace h := ha hc
          refine lv_iinc (v := (x5 + (1 : Int32))) (lv' := [(5, .int (x5 + (1 : Int32))), (0, .int x0), (1, .int x1), (2, .ref x2), (3, .int x3), (4, .int x4)]) hx hb dL_tick_124 hl (k := 5) rfl rfl (by decide) rfl (fun ls hl => ?_)
          refine lv_goto (tgt := 87) hx hb dL_tick_127 (by decide) ?_
          exact ih _ _ _ _ _ _ _ _ _ _ h (lv_sub hl [1, 2, 3, 4, 5, 0] rfl) hR hS
        · replace h := hb2 hc
          refine lv_iload_n hx hb dL_tick_104 rfl (lv_at hl 0 rfl) ?_
          refine lv_iload hx hb dL_tick_105 (lv_at hl 5 rfl) ?_
          refine lv_iload hx hb dL_tick_107 (lv_at hl 4 rfl) ?_
          refine lv_iload_n hx hb dL_tick_109 rfl (lv_at hl 3 rfl) ?_
          obtain ⟨ha, hb2⟩ := h
          refine lv_icmp_ge (tgt := 117) hx hb dL_tick_110 (by decide) (fun hc => ?_) (fun hc => ?_)
          · replace h := ha hc
            refine lv_iload_n hx hb dL_tick_117 rfl (lv_at hl 3 rfl) ?_
            refine lv_iconst (v := (1 : Int32)) hx hb dL_tick_118 (by decide) ?_
            refine lv_iadd hx hb dL_tick_119 ?_
            exact b120 _ ih _ _ _ _ _ _ _ _ _ _ _ _ _ h (lv_sub hl [0, 1, 2, 3, 4, 5] rfl) hR hS
          · replace h := hb2 hc
            refine lv_iload_n hx hb dL_tick_113 rfl (lv_at hl 3 rfl) ?_
            refine lv_goto (tgt := 120) hx hb dL_tick_114 (by decide) ?_
            exact b120 _ ih _ _ _ _ _ _ _ _ _ _ _ _ _ h (lv_sub hl [0, 1, 2, 3, 4, 5] rfl) hR hS
  have b51 : ∀ (K10 : Int32 → Int32 → Nat → Int32 → Int32 → Int32 → k_M → Prop) (hK10 : ∀ (x0 : Int32) (x1 : Int32) (x2 : Nat) (x3 : Int32) (x4 : Int32) (x5 : Int32) (M : k_M) (H : Heap) (locs : List Loc) (ls : Array Slot), K10 x0 x1 x2 x3 x4 x5 M → lv_has ls 6 [(0, .int x0), (1, .int x1), (2, .ref x2), (3, .int x3), (4, .int x4), (5, .int x5)] → kR G M (kA M0 s.heap.size) H → va_S (kA M0 s.heap.size) s.heap H locs → W p l e (headSpec wsL_tick ({ frames := 1, cells := 0, slots := 0, locals := 24 })).room s m ([.int p0, .int p1, .ref p2] : List Value).toArray below meth c H locs 0 0 (MQ below (va_Qv post (kB G M0 s.heap.size) (kA M0 s.heap.size)) ([.int p0, .int p1, .ref p2] : List Value).toArray s 0 0 (kA M0 s.heap.size)) (F0 m 10 ls [])), ∀ (x0 : Int32) (x1 : Int32) (x2 : Nat) (x4 : Int32) (x5 : Int32) (s0 : Int32) (M : k_M) (H : Heap) (locs : List Loc) (ls : Array Slot), wp_L_tick_b51 G post K10 x0 x1 x2 x4 x5 s0 M → lv_has ls 6 [(0, .int x0), (1, .int x1), (2, .ref x2), (4, .int x4), (5, .int x5)] → kR G M (kA M0 s.heap.size) H → va_S (kA M0 s.heap.size) s.heap H locs → W p l e (headSpec wsL_tick ({ frames := 1, cells := 0, slots := 0, locals := 24 })).room s m ([.int p0, .int p1, .ref p2] : List Value).toArray below meth c H locs 0 0 (MQ below (va_Qv post (kB G M0 s.heap.size) (kA M0 s.heap.size)) ([.int p0, .int p1, .ref p2] : List Value).toArray s 0 0 (kA M0 s.heap.size)) (F0 m 51 ls [.int s0]) := by
    intro K10 hK10 x0 x1 x2 x4 x5 s0 M H locs ls h hl hR hS
    refine lv_istore_n (lv' := [(3, .int s0), (0, .int x0), (1, .int x1), (2, .ref x2), (4, .int x4), (5, .int x5)]) hx hb dL_tick_51 rfl hl (by decide) rfl (fun ls hl => ?_)
    refine lv_iload_n hx hb dL_tick_52 rfl (lv_at hl 1 rfl) ?_
    refine lv_iload hx hb dL_tick_53 (lv_at hl 5 rfl) ?_
    refine lv_aload_n hx hb dL_tick_55 rfl (lv_at hl 3 rfl) ?_
    refine k_calli0 (va_runS (As := [.int x0, .int x5, .ref x2]) (rest := []) ⟨hx, hb, hml, hown, hts⟩ (c_L_height l G _ _ _ x0 x5 x2 h) (va_cwS 3 hts gL_tick_L_height rfl rfl rfl (by decide +kernel) ⟨Nat.le_of_ble_eq_true rfl, Nat.le_of_ble_eq_true rfl⟩) (k_preS hR hS hA hE) rfl rfl hl.1 rfl (lv_room (Nat.le_of_ble_eq_true rfl)) dL_tick_56 ⟨Nat.zero_le _, Nat.zero_le _⟩) hR hS hA (fun r9 M10 H locs h hR hS => ?_)
    refine lv_iload hx hb dL_tick_59 (lv_at hl 4 rfl) ?_
    obtain ⟨ha, hb2⟩ := h
    refine lv_icmp_ge (tgt := 74) hx hb dL_tick_61 (by decide) (fun hc => ?_) (fun hc => ?_)
    · replace h := ha hc
      refine lv_iload hx hb dL_tick_74 (lv_at hl 4 rfl) ?_
      refine lv_istore (lv' := [(4, .int x4), (3, .int s0), (0, .int x0), (1, .int x1), (2, .ref x2), (5, .int x5)]) hx hb dL_tick_76 hl (by decide) rfl (fun ls hl => ?_)
      refine lv_iinc (v := (x5 + (1 : Int32))) (lv' := [(5, .int (x5 + (1 : Int32))), (4, .int x4), (3, .int s0), (0, .int x0), (1, .int x1), (2, .ref x2)]) hx hb dL_tick_78 hl (k := 5) rfl rfl (by decide) rfl (fun ls hl => ?_)
      refine lv_goto (tgt := 10) hx hb dL_tick_81 (by decide) ?_
      exact hK10 _ _ _ _ _ _ _ _ _ _ h (lv_sub hl [3, 4, 5, 2, 1, 0] rfl) hR hS
    · replace h := hb2 hc
      refine lv_iload_n hx hb dL_tick_64 rfl (lv_at hl 1 rfl) ?_
      refine lv_iload hx hb dL_tick_65 (lv_at hl 5 rfl) ?_
      refine lv_aload_n hx hb dL_tick_67 rfl (lv_at hl 3 rfl) ?_
      refine k_calli0 (va_runS (As := [.int x0, .int x5, .ref x2]) (rest := []) ⟨hx, hb, hml, hown, hts⟩ (c_L_height l G _ _ _ x0 x5 x2 h) (va_cwS 3 hts gL_tick_L_height rfl rfl rfl (by decide +kernel) ⟨Nat.le_of_ble_eq_true rfl, Nat.le_of_ble_eq_true rfl⟩) (k_preS hR hS hA hE) rfl rfl hl.1 rfl (lv_room (Nat.le_of_ble_eq_true rfl)) dL_tick_68 ⟨Nat.zero_le _, Nat.zero_le _⟩) hR hS hA (fun r12 M13 H locs h hR hS => ?_)
      refine lv_goto (tgt := 76) hx hb dL_tick_71 (by decide) ?_
      refine lv_istore (lv' := [(4, .int r12), (3, .int s0), (0, .int x0), (1, .int x1), (2, .ref x2), (5, .int x5)]) hx hb dL_tick_76 hl (by decide) rfl (fun ls hl => ?_)
      refine lv_iinc (v := (x5 + (1 : Int32))) (lv' := [(5, .int (x5 + (1 : Int32))), (4, .int r12), (3, .int s0), (0, .int x0), (1, .int x1), (2, .ref x2)]) hx hb dL_tick_78 hl (k := 5) rfl rfl (by decide) rfl (fun ls hl => ?_)
      refine lv_goto (tgt := 10) hx hb dL_tick_81 (by decide) ?_
      exact hK10 _ _ _ _ _ _ _ _ _ _ h (lv_sub hl [3, 4, 5, 2, 1, 0] rfl) hR hS
  have L10 : ∀ (n : Nat), ∀ (x0 : Int32) (x1 : Int32) (x2 : Nat) (x3 : Int32) (x4 : Int32) (x5 : Int32) (M : k_M) (H : Heap) (locs : List Loc) (ls : Array Slot), wp_L_tick_L10 G post n x0 x1 x2 x3 x4 x5 M → lv_has ls 6 [(0, .int x0), (1, .int x1), (2, .ref x2), (3, .int x3), (4, .int x4), (5, .int x5)] → kR G M (kA M0 s.heap.size) H → va_S (kA M0 s.heap.size) s.heap H locs → W p l e (headSpec wsL_tick ({ frames := 1, cells := 0, slots := 0, locals := 24 })).room s m ([.int p0, .int p1, .ref p2] : List Value).toArray below meth c H locs 0 0 (MQ below (va_Qv post (kB G M0 s.heap.size) (kA M0 s.heap.size)) ([.int p0, .int p1, .ref p2] : List Value).toArray s 0 0 (kA M0 s.heap.size)) (F0 m 10 ls []) := by
    intro n
    induction n with
    | zero =>
      intro  x0 x1 x2 x3 x4 x5 M H locs ls h
      exact False.elim h
    | succ n ih =>
      intro  x0 x1 x2 x3 x4 x5 M H locs ls h hl hR hS
      refine lv_iload hx hb dL_tick_10 (lv_at hl 5 rfl) ?_
      refine lv_bipush (v := (16 : Int32)) hx hb dL_tick_12 (by decide) ?_
      obtain ⟨ha, hb2⟩ := h
      refine lv_icmp_ge (tgt := 84) hx hb dL_tick_14 (by decide) (fun hc => ?_) (fun hc => ?_)
      · replace h := ha hc
        refine lv_iconst (v := (0 : Int32)) hx hb dL_tick_84 (by decide) ?_
        refine lv_istore (lv' := [(5, .int (0 : Int32)), (0, .int x0), (1, .int x1), (2, .ref x2), (3, .int x3), (4, .int x4)]) hx hb dL_tick_85 hl (by decide) rfl (fun ls hl => ?_)
        obtain ⟨k2, h⟩ := h
        exact L87 k2 _ _ _ _ _ _ _ _ _ _ h (lv_sub hl [1, 2, 3, 4, 5, 0] rfl) hR hS
      · replace h := hb2 hc
        refine lv_iload_n hx hb dL_tick_17 rfl (lv_at hl 1 rfl) ?_
        refine lv_iload hx hb dL_tick_18 (lv_at hl 5 rfl) ?_
        refine lv_ishr hx hb dL_tick_20 ?_
        refine lv_iconst (v := (1 : Int32)) hx hb dL_tick_21 (by decide) ?_
        refine lv_iand hx hb dL_tick_22 ?_
        obtain ⟨ha, hb2⟩ := h
        refine lv_if_ne (tgt := 29) hx hb dL_tick_23 (by decide) (fun hc => ?_) (fun hc => ?_)
        · replace h := ha hc
          refine lv_iload_n hx hb dL_tick_29 rfl (lv_at hl 0 rfl) ?_
          refine lv_iload hx hb dL_tick_30 (lv_at hl 5 rfl) ?_
          refine lv_aload_n hx hb dL_tick_32 rfl (lv_at hl 2 rfl) ?_
          refine k_calli0 (va_runS (As := [.int x0, .int x5, .ref x2]) (rest := []) ⟨hx, hb, hml, hown, hts⟩ (c_L_height l G _ _ _ x0 x5 x2 h) (va_cwS 3 hts gL_tick_L_height rfl rfl rfl (by decide +kernel) ⟨Nat.le_of_ble_eq_true rfl, Nat.le_of_ble_eq_true rfl⟩) (k_preS hR hS hA hE) rfl rfl hl.1 rfl (lv_room (Nat.le_of_ble_eq_true rfl)) dL_tick_33 ⟨Nat.zero_le _, Nat.zero_le _⟩) hR hS hA (fun r6 M7 H locs h hR hS => ?_)
          refine lv_iload_n hx hb dL_tick_36 rfl (lv_at hl 3 rfl) ?_
          obtain ⟨ha, hb2⟩ := h
          refine lv_icmp_le (tgt := 50) hx hb dL_tick_37 (by decide) (fun hc => ?_) (fun hc => ?_)
          · replace h := ha hc
            refine lv_iload_n hx hb dL_tick_50 rfl (lv_at hl 3 rfl) ?_
            exact b51 _ ih _ _ _ _ _ _ _ _ _ _ h (lv_sub hl [0, 1, 2, 4, 5] rfl) hR hS
          · replace h := hb2 hc
            refine lv_iload_n hx hb dL_tick_40 rfl (lv_at hl 0 rfl) ?_
            refine lv_iload hx hb dL_tick_41 (lv_at hl 5 rfl) ?_
            refine lv_aload_n hx hb dL_tick_43 rfl (lv_at hl 2 rfl) ?_
            refine k_calli0 (va_runS (As := [.int x0, .int x5, .ref x2]) (rest := []) ⟨hx, hb, hml, hown, hts⟩ (c_L_height l G _ _ _ x0 x5 x2 h) (va_cwS 3 hts gL_tick_L_height rfl rfl rfl (by decide +kernel) ⟨Nat.le_of_ble_eq_true rfl, Nat.le_of_ble_eq_true rfl⟩) (k_preS hR hS hA hE) rfl rfl hl.1 rfl (lv_room (Nat.le_of_ble_eq_true rfl)) dL_tick_44 ⟨Nat.zero_le _, Nat.zero_le _⟩) hR hS hA (fun r15 M16 H locs h hR hS => ?_)
            refine lv_goto (tgt := 51) hx hb dL_tick_47 (by decide) ?_
            exact b51 _ ih _ _ _ _ _ _ _ _ _ _ h (lv_sub hl [0, 1, 2, 4, 5] rfl) hR hS
        · replace h := hb2 hc
          refine lv_goto (tgt := 78) hx hb dL_tick_26 (by decide) ?_
          refine lv_iinc (v := (x5 + (1 : Int32))) (lv' := [(5, .int (x5 + (1 : Int32))), (0, .int x0), (1, .int x1), (2, .ref x2), (3, .int x3), (4, .int x4)]) hx hb dL_tick_78 hl (k := 5) rfl rfl (by decide) rfl (fun ls hl => ?_)
          refine lv_goto (tgt := 10) hx hb dL_tick_81 (by decide) ?_
          exact ih _ _ _ _ _ _ _ _ _ _ h (lv_sub hl [1, 2, 3, 4, 5, 0] rfl) hR hS
  have hl := lv_entry ([.int p0, .int p1, .ref p2]) (n := 6) (Nat.le_of_ble_eq_true rfl)
  rw [lg_entry_eq]
  generalize (lg_sl ([.int p0, .int p1, .ref p2]) ++ List.replicate (6 - (lg_sl ([.int p0, .int p1, .ref p2])).length) Slot.unset).toArray = ls at hl ⊢
  have hl : lv_has ls 6 [(0, .int p0), (1, .int p1), (2, .ref p2)] := hl
  have hR0 := hR
  refine lv_iconst (v := (0 : Int32)) hx hb dL_tick_0 (by decide) ?_
  refine lv_istore_n (lv' := [(3, .int (0 : Int32)), (0, .int p0), (1, .int p1), (2, .ref p2)]) hx hb dL_tick_1 rfl hl (by decide) rfl (fun ls hl => ?_)
  refine lv_sipush (v := (999 : Int32)) hx hb dL_tick_2 (by decide) ?_
  refine lv_istore (lv' := [(4, .int (999 : Int32)), (3, .int (0 : Int32)), (0, .int p0), (1, .int p1), (2, .ref p2)]) hx hb dL_tick_5 hl (by decide) rfl (fun ls hl => ?_)
  refine lv_iconst (v := (0 : Int32)) hx hb dL_tick_7 (by decide) ?_
  refine lv_istore (lv' := [(5, .int (0 : Int32)), (4, .int (999 : Int32)), (3, .int (0 : Int32)), (0, .int p0), (1, .int p1), (2, .ref p2)]) hx hb dL_tick_8 hl (by decide) rfl (fun ls hl => ?_)
  obtain ⟨k1, h⟩ := h
  exact L10 k1 _ _ _ _ _ _ _ _ _ _ h (lv_sub hl [3, 4, 5, 2, 1, 0] rfl) hR hS

def wp_L_bits_L4 (G : k_G) (post : Int32 → k_M → Prop) : Nat → Int32 → Int64 → k_M → Prop
  | 0 => fun _ _ _ => False
  | n + 1 => fun x2 x3 M =>
  (((lg_cmp x3 (0 : Int64)) = 0 →
      post x2 M) ∧
      (¬ (lg_cmp x3 (0 : Int64)) = 0 →
      (wp_L_bits_L4 G post n) (x2 + (1 : Int32)) (x3 &&& (x3 - (1 : Int64))) M))
def wp_L_bits (G : k_G) (post : Int32 → k_M → Prop) (p0 : Int64) (M0 : k_M) : Prop :=
  ∃ k1, wp_L_bits_L4 G post k1 (0 : Int32) p0 M0
set_option maxHeartbeats 4000000 in
set_option maxRecDepth 100000 in
theorem c_L_bits (l : Launch) (G : k_G) (M0 : k_M) (sz : Nat) (post : Int32 → k_M → Prop) (p0 : Int64) (h : wp_L_bits G post p0 M0) : Met l yL_bits wsL_bits ({ frames := 0, cells := 0, slots := 0, locals := 0 }) (va_Pc [.long p0] (kPre G M0 sz)) (va_Qi post (kB G M0 sz) (kA M0 sz)) 0 0 (kA M0 sz) := by
  refine Met.ofW (cc := cL_bits) (maxL := 5) (ret := (some .int)) (by decide) rfl ?_
  intro p e s m args below meth c s₁ B hml hv
  obtain ⟨rfl, hsz, hR, hE⟩ := hv
  have hx := B.exec
  have hb := B.bytes
  have hr := B.returns
  have hts := atoms_spec (ws := wsL_bits) B.pre
  have hown : s.vm.findClass RL = some m.cls := findClass_of_methodNamed B.named
  have hlocks := B.notSynchronized
  subst hsz
  have hK := hE.1
  have hA : ∀ q, s.heap.size ≤ q → kA M0 s.heap.size q := kA.new
  have hS : va_S (kA M0 s.heap.size) s.heap s.heap [] := va_S.rf
  have L4 : ∀ (n : Nat), ∀ (x2 : Int32) (x3 : Int64) (M : k_M) (H : Heap) (locs : List Loc) (ls : Array Slot), wp_L_bits_L4 G post n x2 x3 M → lv_has ls 5 [(2, .int x2), (3, .long x3)] → kR G M (kA M0 s.heap.size) H → va_S (kA M0 s.heap.size) s.heap H locs → W p l e (headSpec wsL_bits ({ frames := 0, cells := 0, slots := 0, locals := 0 })).room s m ([.long p0] : List Value).toArray below meth c H locs 0 0 (MQ below (va_Qi post (kB G M0 s.heap.size) (kA M0 s.heap.size)) ([.long p0] : List Value).toArray s 0 0 (kA M0 s.heap.size)) (F0 m 4 ls []) := by
    intro n
    induction n with
    | zero =>
      intro  x2 x3 M H locs ls h
      exact False.elim h
    | succ n ih =>
      intro  x2 x3 M H locs ls h hl hR hS
      refine lv_lload_n hx hb dL_bits_4 rfl (lv_at hl 1 rfl) ?_
      refine lv_lconst (v := (0 : Int64)) hx hb dL_bits_5 (by decide) ?_
      refine W.lcmp hx hb dL_bits_6 ?_
      obtain ⟨ha, hb2⟩ := h
      refine lv_if_eq (tgt := 22) hx hb dL_bits_7 (by decide) (fun hc => ?_) (fun hc => ?_)
      · replace h := ha hc
        refine lv_iload_n hx hb dL_bits_22 rfl (lv_at hl 0 rfl) ?_
        exact k_reti hx hb hr hlocks rfl hR hS h dL_bits_23
      · replace h := hb2 hc
        refine lv_iinc (v := (x2 + (1 : Int32))) (lv' := [(2, .int (x2 + (1 : Int32))), (3, .long x3)]) hx hb dL_bits_10 hl (k := 0) rfl rfl (by decide) rfl (fun ls hl => ?_)
        refine lv_lload_n hx hb dL_bits_13 rfl (lv_at hl 1 rfl) ?_
        refine lv_lload_n hx hb dL_bits_14 rfl (lv_at hl 1 rfl) ?_
        refine lv_lconst (v := (1 : Int64)) hx hb dL_bits_15 (by decide) ?_
        refine lv_lsub hx hb dL_bits_16 ?_
        refine lv_land hx hb dL_bits_17 ?_
        refine lv_lstore_n (lv' := [(3, .long (x3 &&& (x3 - (1 : Int64)))), (2, .int (x2 + (1 : Int32)))]) hx hb dL_bits_18 rfl hl (by decide) rfl (fun ls hl => ?_)
        refine lv_goto (tgt := 4) hx hb dL_bits_19 (by decide) ?_
        exact ih _ _ _ _ _ _ h (lv_sub hl [1, 0] rfl) hR hS
  have hl := lv_entry ([.long p0]) (n := 5) (Nat.le_of_ble_eq_true rfl)
  rw [lg_entry_eq]
  generalize (lg_sl ([.long p0]) ++ List.replicate (5 - (lg_sl ([.long p0])).length) Slot.unset).toArray = ls at hl ⊢
  have hl : lv_has ls 5 [(0, .long p0)] := hl
  have hR0 := hR
  refine lv_iconst (v := (0 : Int32)) hx hb dL_bits_0 (by decide) ?_
  refine lv_istore_n (lv' := [(2, .int (0 : Int32)), (0, .long p0)]) hx hb dL_bits_1 rfl hl (by decide) rfl (fun ls hl => ?_)
  refine lv_lload_n hx hb dL_bits_2 rfl (lv_at hl 1 rfl) ?_
  refine lv_lstore_n (lv' := [(3, .long p0), (2, .int (0 : Int32)), (0, .long p0)]) hx hb dL_bits_3 rfl hl (by decide) rfl (fun ls hl => ?_)
  obtain ⟨k1, h⟩ := h
  exact L4 k1 _ _ _ _ _ _ h (lv_sub hl [1, 0] rfl) hR hS

def wp_L_alike_L3 (G : k_G) (post : Int32 → k_M → Prop) : Nat → Int32 → Int32 → Int32 → Nat → Int32 → k_M → Prop
  | 0 => fun _ _ _ _ _ _ => False
  | n + 1 => fun x0 x1 x2 x3 x4 M =>
  ((x2 ≤ x4 →
      post (1 : Int32) M) ∧
      (¬ x2 ≤ x4 →
      wp_L_height G (fun r2 M3 =>
        wp_L_height G (fun r5 M6 =>
        ((r2 = r5 →
        (wp_L_alike_L3 G post n) x0 x1 x2 x3 (x4 + (1 : Int32)) M6) ∧
        (¬ r2 = r5 →
        post (0 : Int32) M6))) x0 x1 x3 M3) x0 (x1 + x4) x3 M))
def wp_L_alike (G : k_G) (post : Int32 → k_M → Prop) (p0 : Int32) (p1 : Int32) (p2 : Int32) (p3 : Nat) (M0 : k_M) : Prop :=
  ∃ k1, wp_L_alike_L3 G post k1 p0 p1 p2 p3 (1 : Int32) M0
set_option maxHeartbeats 4000000 in
set_option maxRecDepth 100000 in
theorem c_L_alike (l : Launch) (G : k_G) (M0 : k_M) (sz : Nat) (post : Int32 → k_M → Prop) (p0 : Int32) (p1 : Int32) (p2 : Int32) (p3 : Nat) (h : wp_L_alike G post p0 p1 p2 p3 M0) : Met l yL_alike wsL_alike ({ frames := 1, cells := 0, slots := 0, locals := 22 }) (va_Pc [.int p0, .int p1, .int p2, .ref p3] (kPre G M0 sz)) (va_Qi post (kB G M0 sz) (kA M0 sz)) 0 0 (kA M0 sz) := by
  refine Met.ofW (cc := cL_alike) (maxL := 5) (ret := (some .boolean)) (by decide) rfl ?_
  intro p e s m args below meth c s₁ B hml hv
  obtain ⟨rfl, hsz, hR, hE⟩ := hv
  have hx := B.exec
  have hb := B.bytes
  have hr := B.returns
  have hts := atoms_spec (ws := wsL_alike) B.pre
  have hown : s.vm.findClass RL = some m.cls := findClass_of_methodNamed B.named
  have hlocks := B.notSynchronized
  subst hsz
  have hK := hE.1
  have hA : ∀ q, s.heap.size ≤ q → kA M0 s.heap.size q := kA.new
  have hS : va_S (kA M0 s.heap.size) s.heap s.heap [] := va_S.rf
  have L3 : ∀ (n : Nat), ∀ (x0 : Int32) (x1 : Int32) (x2 : Int32) (x3 : Nat) (x4 : Int32) (M : k_M) (H : Heap) (locs : List Loc) (ls : Array Slot), wp_L_alike_L3 G post n x0 x1 x2 x3 x4 M → lv_has ls 5 [(0, .int x0), (1, .int x1), (2, .int x2), (3, .ref x3), (4, .int x4)] → kR G M (kA M0 s.heap.size) H → va_S (kA M0 s.heap.size) s.heap H locs → W p l e (headSpec wsL_alike ({ frames := 1, cells := 0, slots := 0, locals := 22 })).room s m ([.int p0, .int p1, .int p2, .ref p3] : List Value).toArray below meth c H locs 0 0 (MQ below (va_Qi post (kB G M0 s.heap.size) (kA M0 s.heap.size)) ([.int p0, .int p1, .int p2, .ref p3] : List Value).toArray s 0 0 (kA M0 s.heap.size)) (F0 m 3 ls []) := by
    intro n
    induction n with
    | zero =>
      intro  x0 x1 x2 x3 x4 M H locs ls h
      exact False.elim h
    | succ n ih =>
      intro  x0 x1 x2 x3 x4 M H locs ls h hl hR hS
      refine lv_iload hx hb dL_alike_3 (lv_at hl 4 rfl) ?_
      refine lv_iload_n hx hb dL_alike_5 rfl (lv_at hl 2 rfl) ?_
      obtain ⟨ha, hb2⟩ := h
      refine lv_icmp_ge (tgt := 35) hx hb dL_alike_6 (by decide) (fun hc => ?_) (fun hc => ?_)
      · replace h := ha hc
        refine lv_iconst (v := (1 : Int32)) hx hb dL_alike_35 (by decide) ?_
        exact k_reti hx hb hr hlocks (by decide) hR hS h dL_alike_36
      · replace h := hb2 hc
        refine lv_iload_n hx hb dL_alike_9 rfl (lv_at hl 0 rfl) ?_
        refine lv_iload_n hx hb dL_alike_10 rfl (lv_at hl 1 rfl) ?_
        refine lv_iload hx hb dL_alike_11 (lv_at hl 4 rfl) ?_
        refine lv_iadd hx hb dL_alike_13 ?_
        refine lv_aload_n hx hb dL_alike_14 rfl (lv_at hl 3 rfl) ?_
        refine k_calli0 (va_runS (As := [.int x0, .int (x1 + x4), .ref x3]) (rest := []) ⟨hx, hb, hml, hown, hts⟩ (c_L_height l G _ _ _ x0 (x1 + x4) x3 h) (va_cwS 3 hts gL_alike_L_height rfl rfl rfl (by decide +kernel) ⟨Nat.le_of_ble_eq_true rfl, Nat.le_of_ble_eq_true rfl⟩) (k_preS hR hS hA hE) rfl rfl hl.1 rfl (lv_room (Nat.le_of_ble_eq_true rfl)) dL_alike_15 ⟨Nat.zero_le _, Nat.zero_le _⟩) hR hS hA (fun r2 M3 H locs h hR hS => ?_)
        refine lv_iload_n hx hb dL_alike_18 rfl (lv_at hl 0 rfl) ?_
        refine lv_iload_n hx hb dL_alike_19 rfl (lv_at hl 1 rfl) ?_
        refine lv_aload_n hx hb dL_alike_20 rfl (lv_at hl 3 rfl) ?_
        refine k_calli0 (va_runS (As := [.int x0, .int x1, .ref x3]) (rest := [.int r2]) ⟨hx, hb, hml, hown, hts⟩ (c_L_height l G _ _ _ x0 x1 x3 h) (va_cwS 3 hts gL_alike_L_height rfl rfl rfl (by decide +kernel) ⟨Nat.le_of_ble_eq_true rfl, Nat.le_of_ble_eq_true rfl⟩) (k_preS hR hS hA hE) rfl rfl hl.1 rfl (lv_room (Nat.le_of_ble_eq_true rfl)) dL_alike_21 ⟨Nat.zero_le _, Nat.zero_le _⟩) hR hS hA (fun r5 M6 H locs h hR hS => ?_)
        obtain ⟨ha, hb2⟩ := h
        refine lv_icmp_eq (tgt := 29) hx hb dL_alike_24 (by decide) (fun hc => ?_) (fun hc => ?_)
        · replace h := ha hc
          refine lv_iinc (v := (x4 + (1 : Int32))) (lv' := [(4, .int (x4 + (1 : Int32))), (0, .int x0), (1, .int x1), (2, .int x2), (3, .ref x3)]) hx hb dL_alike_29 hl (k := 4) rfl rfl (by decide) rfl (fun ls hl => ?_)
          refine lv_goto (tgt := 3) hx hb dL_alike_32 (by decide) ?_
          exact ih _ _ _ _ _ _ _ _ _ h (lv_sub hl [1, 2, 3, 4, 0] rfl) hR hS
        · replace h := hb2 hc
          refine lv_iconst (v := (0 : Int32)) hx hb dL_alike_27 (by decide) ?_
          exact k_reti hx hb hr hlocks (by decide) hR hS h dL_alike_28
  have hl := lv_entry ([.int p0, .int p1, .int p2, .ref p3]) (n := 5) (Nat.le_of_ble_eq_true rfl)
  rw [lg_entry_eq]
  generalize (lg_sl ([.int p0, .int p1, .int p2, .ref p3]) ++ List.replicate (5 - (lg_sl ([.int p0, .int p1, .int p2, .ref p3])).length) Slot.unset).toArray = ls at hl ⊢
  have hl : lv_has ls 5 [(0, .int p0), (1, .int p1), (2, .int p2), (3, .ref p3)] := hl
  have hR0 := hR
  refine lv_iconst (v := (1 : Int32)) hx hb dL_alike_0 (by decide) ?_
  refine lv_istore (lv' := [(4, .int (1 : Int32)), (0, .int p0), (1, .int p1), (2, .int p2), (3, .ref p3)]) hx hb dL_alike_1 hl (by decide) rfl (fun ls hl => ?_)
  obtain ⟨k1, h⟩ := h
  exact L3 k1 _ _ _ _ _ _ _ _ _ h (lv_sub hl [1, 2, 3, 4, 0] rfl) hR hS

def wp_L_knots_L13 (G : k_G) (post : Int32 → k_M → Prop) (K4 : Int32 → Nat → Int32 → Int32 → k_M → Prop) : Nat → Int32 → Nat → Int32 → Int32 → Int32 → k_M → Prop
  | 0 => fun _ _ _ _ _ _ => False
  | n + 1 => fun x0 x1 x2 x3 x4 M =>
  (((16 : Int32) ≤ x4 →
      K4 x0 x1 x2 (x3 * (2 : Int32)) M) ∧
      (¬ (16 : Int32) ≤ x4 →
      wp_L_alike G (fun r3 M4 =>
        ((r3 = 0 →
        (wp_L_knots_L13 G post K4 n) x0 x1 (x2 + (1 : Int32)) x3 (x4 + x3) M4) ∧
        (¬ r3 = 0 →
        (wp_L_knots_L13 G post K4 n) x0 x1 (x2 + (0 : Int32)) x3 (x4 + x3) M4))) x0 x4 x3 x1 M))
def wp_L_knots_L4 (G : k_G) (post : Int32 → k_M → Prop) : Nat → Int32 → Nat → Int32 → Int32 → k_M → Prop
  | 0 => fun _ _ _ _ _ => False
  | n + 1 => fun x0 x1 x2 x3 M =>
  (((17 : Int32) ≤ x3 →
      post x2 M) ∧
      (¬ (17 : Int32) ≤ x3 →
      ∃ k2, wp_L_knots_L13 G post (wp_L_knots_L4 G post n) k2 x0 x1 x2 x3 (0 : Int32) M))
def wp_L_knots (G : k_G) (post : Int32 → k_M → Prop) (p0 : Int32) (p1 : Nat) (M0 : k_M) : Prop :=
  ∃ k1, wp_L_knots_L4 G post k1 p0 p1 (0 : Int32) (2 : Int32) M0
set_option maxHeartbeats 4000000 in
set_option maxRecDepth 100000 in
theorem c_L_knots (l : Launch) (G : k_G) (M0 : k_M) (sz : Nat) (post : Int32 → k_M → Prop) (p0 : Int32) (p1 : Nat) (h : wp_L_knots G post p0 p1 M0) : Met l yL_knots wsL_knots ({ frames := 2, cells := 0, slots := 0, locals := 46 }) (va_Pc [.int p0, .ref p1] (kPre G M0 sz)) (va_Qi post (kB G M0 sz) (kA M0 sz)) 0 0 (kA M0 sz) := by
  refine Met.ofW (cc := cL_knots) (maxL := 5) (ret := (some .int)) (by decide) rfl ?_
  intro p e s m args below meth c s₁ B hml hv
  obtain ⟨rfl, hsz, hR, hE⟩ := hv
  have hx := B.exec
  have hb := B.bytes
  have hr := B.returns
  have hts := atoms_spec (ws := wsL_knots) B.pre
  have hown : s.vm.findClass RL = some m.cls := findClass_of_methodNamed B.named
  have hlocks := B.notSynchronized
  subst hsz
  have hK := hE.1
  have hA : ∀ q, s.heap.size ≤ q → kA M0 s.heap.size q := kA.new
  have hS : va_S (kA M0 s.heap.size) s.heap s.heap [] := va_S.rf
  have L13 : ∀ (K4 : Int32 → Nat → Int32 → Int32 → k_M → Prop) (hK4 : ∀ (x0 : Int32) (x1 : Nat) (x2 : Int32) (x3 : Int32) (M : k_M) (H : Heap) (locs : List Loc) (ls : Array Slot), K4 x0 x1 x2 x3 M → lv_has ls 5 [(0, .int x0), (1, .ref x1), (2, .int x2), (3, .int x3)] → kR G M (kA M0 s.heap.size) H → va_S (kA M0 s.heap.size) s.heap H locs → W p l e (headSpec wsL_knots ({ frames := 2, cells := 0, slots := 0, locals := 46 })).room s m ([.int p0, .ref p1] : List Value).toArray below meth c H locs 0 0 (MQ below (va_Qi post (kB G M0 s.heap.size) (kA M0 s.heap.size)) ([.int p0, .ref p1] : List Value).toArray s 0 0 (kA M0 s.heap.size)) (F0 m 4 ls [])) (n : Nat), ∀ (x0 : Int32) (x1 : Nat) (x2 : Int32) (x3 : Int32) (x4 : Int32) (M : k_M) (H : Heap) (locs : List Loc) (ls : Array Slot), wp_L_knots_L13 G post K4 n x0 x1 x2 x3 x4 M → lv_has ls 5 [(0, .int x0), (1, .ref x1), (2, .int x2), (3, .int x3), (4, .int x4)] → kR G M (kA M0 s.heap.size) H → va_S (kA M0 s.heap.size) s.heap H locs → W p l e (headSpec wsL_knots ({ frames := 2, cells := 0, slots := 0, locals := 46 })).room s m ([.int p0, .ref p1] : List Value).toArray below meth c H locs 0 0 (MQ below (va_Qi post (kB G M0 s.heap.size) (kA M0 s.heap.size)) ([.int p0, .ref p1] : List Value).toArray s 0 0 (kA M0 s.heap.size)) (F0 m 13 ls []) := by
    intro K4 hK4 n
    induction n with
    | zero =>
      intro  x0 x1 x2 x3 x4 M H locs ls h
      exact False.elim h
    | succ n ih =>
      intro  x0 x1 x2 x3 x4 M H locs ls h hl hR hS
      refine lv_iload hx hb dL_knots_13 (lv_at hl 4 rfl) ?_
      refine lv_bipush (v := (16 : Int32)) hx hb dL_knots_15 (by decide) ?_
      obtain ⟨ha, hb2⟩ := h
      refine lv_icmp_ge (tgt := 48) hx hb dL_knots_17 (by decide) (fun hc => ?_) (fun hc => ?_)
      · replace h := ha hc
        refine lv_iload_n hx hb dL_knots_48 rfl (lv_at hl 3 rfl) ?_
        refine lv_iconst (v := (2 : Int32)) hx hb dL_knots_49 (by decide) ?_
        refine lv_imul hx hb dL_knots_50 ?_
        refine lv_istore_n (lv' := [(3, .int (x3 * (2 : Int32))), (0, .int x0), (1, .ref x1), (2, .int x2), (4, .int x4)]) hx hb dL_knots_51 rfl hl (by decide) rfl (fun ls hl => ?_)
        refine lv_goto (tgt := 4) hx hb dL_knots_52 (by decide) ?_
        exact hK4 _ _ _ _ _ _ _ _ h (lv_sub hl [1, 2, 3, 0] rfl) hR hS
      · replace h := hb2 hc
        refine lv_iload_n hx hb dL_knots_20 rfl (lv_at hl 2 rfl) ?_
        refine lv_iload_n hx hb dL_knots_21 rfl (lv_at hl 0 rfl) ?_
        refine lv_iload hx hb dL_knots_22 (lv_at hl 4 rfl) ?_
        refine lv_iload_n hx hb dL_knots_24 rfl (lv_at hl 3 rfl) ?_
        refine lv_aload_n hx hb dL_knots_25 rfl (lv_at hl 1 rfl) ?_
        refine k_calli0 (va_runS (As := [.int x0, .int x4, .int x3, .ref x1]) (rest := [.int x2]) ⟨hx, hb, hml, hown, hts⟩ (c_L_alike l G _ _ _ x0 x4 x3 x1 h) (va_cwS 4 hts gL_knots_L_alike rfl rfl rfl (by decide +kernel) ⟨Nat.le_of_ble_eq_true rfl, Nat.le_of_ble_eq_true rfl⟩) (k_preS hR hS hA hE) rfl rfl hl.1 rfl (lv_room (Nat.le_of_ble_eq_true rfl)) dL_knots_26 ⟨Nat.zero_le _, Nat.zero_le _⟩) hR hS hA (fun r3 M4 H locs h hR hS => ?_)
        obtain ⟨ha, hb2⟩ := h
        refine lv_if_eq (tgt := 36) hx hb dL_knots_29 (by decide) (fun hc => ?_) (fun hc => ?_)
        · replace h := ha hc
          refine lv_iconst (v := (1 : Int32)) hx hb dL_knots_36 (by decide) ?_
          refine lv_iadd hx hb dL_knots_37 ?_
          refine lv_istore_n (lv' := [(2, .int (x2 + (1 : Int32))), (0, .int x0), (1, .ref x1), (3, .int x3), (4, .int x4)]) hx hb dL_knots_38 rfl hl (by decide) rfl (fun ls hl => ?_)
          refine lv_iload hx hb dL_knots_39 (lv_at hl 4 rfl) ?_
          refine lv_iload_n hx hb dL_knots_41 rfl (lv_at hl 3 rfl) ?_
          refine lv_iadd hx hb dL_knots_42 ?_
          refine lv_istore (lv' := [(4, .int (x4 + x3)), (2, .int (x2 + (1 : Int32))), (0, .int x0), (1, .ref x1), (3, .int x3)]) hx hb dL_knots_43 hl (by decide) rfl (fun ls hl => ?_)
          refine lv_goto (tgt := 13) hx hb dL_knots_45 (by decide) ?_
          exact ih _ _ _ _ _ _ _ _ _ h (lv_sub hl [2, 3, 1, 4, 0] rfl) hR hS
        · replace h := hb2 hc
          refine lv_iconst (v := (0 : Int32)) hx hb dL_knots_32 (by decide) ?_
          refine lv_goto (tgt := 37) hx hb dL_knots_33 (by decide) ?_
          refine lv_iadd hx hb dL_knots_37 ?_
          refine lv_istore_n (lv' := [(2, .int (x2 + (0 : Int32))), (0, .int x0), (1, .ref x1), (3, .int x3), (4, .int x4)]) hx hb dL_knots_38 rfl hl (by decide) rfl (fun ls hl => ?_)
          refine lv_iload hx hb dL_knots_39 (lv_at hl 4 rfl) ?_
          refine lv_iload_n hx hb dL_knots_41 rfl (lv_at hl 3 rfl) ?_
          refine lv_iadd hx hb dL_knots_42 ?_
          refine lv_istore (lv' := [(4, .int (x4 + x3)), (2, .int (x2 + (0 : Int32))), (0, .int x0), (1, .ref x1), (3, .int x3)]) hx hb dL_knots_43 hl (by decide) rfl (fun ls hl => ?_)
          refine lv_goto (tgt := 13) hx hb dL_knots_45 (by decide) ?_
          exact ih _ _ _ _ _ _ _ _ _ h (lv_sub hl [2, 3, 1, 4, 0] rfl) hR hS
  have L4 : ∀ (n : Nat), ∀ (x0 : Int32) (x1 : Nat) (x2 : Int32) (x3 : Int32) (M : k_M) (H : Heap) (locs : List Loc) (ls : Array Slot), wp_L_knots_L4 G post n x0 x1 x2 x3 M → lv_has ls 5 [(0, .int x0), (1, .ref x1), (2, .int x2), (3, .int x3)] → kR G M (kA M0 s.heap.size) H → va_S (kA M0 s.heap.size) s.heap H locs → W p l e (headSpec wsL_knots ({ frames := 2, cells := 0, slots := 0, locals := 46 })).room s m ([.int p0, .ref p1] : List Value).toArray below meth c H locs 0 0 (MQ below (va_Qi post (kB G M0 s.heap.size) (kA M0 s.heap.size)) ([.int p0, .ref p1] : List Value).toArray s 0 0 (kA M0 s.heap.size)) (F0 m 4 ls []) := by
    intro n
    induction n with
    | zero =>
      intro  x0 x1 x2 x3 M H locs ls h
      exact False.elim h
    | succ n ih =>
      intro  x0 x1 x2 x3 M H locs ls h hl hR hS
      refine lv_iload_n hx hb dL_knots_4 rfl (lv_at hl 3 rfl) ?_
      refine lv_bipush (v := (17 : Int32)) hx hb dL_knots_5 (by decide) ?_
      obtain ⟨ha, hb2⟩ := h
      refine lv_icmp_ge (tgt := 55) hx hb dL_knots_7 (by decide) (fun hc => ?_) (fun hc => ?_)
      · replace h := ha hc
        refine lv_iload_n hx hb dL_knots_55 rfl (lv_at hl 2 rfl) ?_
        exact k_reti hx hb hr hlocks rfl hR hS h dL_knots_56
      · replace h := hb2 hc
        refine lv_iconst (v := (0 : Int32)) hx hb dL_knots_10 (by decide) ?_
        refine lv_istore (lv' := [(4, .int (0 : Int32)), (0, .int x0), (1, .ref x1), (2, .int x2), (3, .int x3)]) hx hb dL_knots_11 hl (by decide) rfl (fun ls hl => ?_)
        obtain ⟨k2, h⟩ := h
        exact L13 _ ih k2 _ _ _ _ _ _ _ _ _ h (lv_sub hl [1, 2, 3, 4, 0] rfl) hR hS
  have hl := lv_entry ([.int p0, .ref p1]) (n := 5) (Nat.le_of_ble_eq_true rfl)
  rw [lg_entry_eq]
  generalize (lg_sl ([.int p0, .ref p1]) ++ List.replicate (5 - (lg_sl ([.int p0, .ref p1])).length) Slot.unset).toArray = ls at hl ⊢
  have hl : lv_has ls 5 [(0, .int p0), (1, .ref p1)] := hl
  have hR0 := hR
  refine lv_iconst (v := (0 : Int32)) hx hb dL_knots_0 (by decide) ?_
  refine lv_istore_n (lv' := [(2, .int (0 : Int32)), (0, .int p0), (1, .ref p1)]) hx hb dL_knots_1 rfl hl (by decide) rfl (fun ls hl => ?_)
  refine lv_iconst (v := (2 : Int32)) hx hb dL_knots_2 (by decide) ?_
  refine lv_istore_n (lv' := [(3, .int (2 : Int32)), (2, .int (0 : Int32)), (0, .int p0), (1, .ref p1)]) hx hb dL_knots_3 rfl hl (by decide) rfl (fun ls hl => ?_)
  obtain ⟨k1, h⟩ := h
  exact L4 k1 _ _ _ _ _ _ _ _ h (lv_sub hl [2, 3, 1, 0] rfl) hR hS

def wp_L_inside_L2 (G : k_G) (post : Int32 → k_M → Prop) : Nat → Int32 → Int32 → Nat → Int32 → k_M → Prop
  | 0 => fun _ _ _ _ _ => False
  | n + 1 => fun x0 x1 x2 x3 M =>
  (((17 : Int32) ≤ x3 →
      post (0 : Int32) M) ∧
      (¬ (17 : Int32) ≤ x3 →
      (¬ x3 = 0 ∧ (((x1 - x1 / x3 * x3) = 0 →
        (wp_L_inside_L2 G post n) x0 x1 x2 (x3 * (2 : Int32)) M) ∧
        (¬ (x1 - x1 / x3 * x3) = 0 →
        (¬ x3 = 0 ∧ wp_L_alike G (fun r4 M5 =>
          ((r4 = 0 →
          (wp_L_inside_L2 G post n) x0 x1 x2 (x3 * (2 : Int32)) M5) ∧
          (¬ r4 = 0 →
          post (1 : Int32) M5))) x0 (x1 - (x1 - x1 / x3 * x3)) x3 x2 M))))))
def wp_L_inside (G : k_G) (post : Int32 → k_M → Prop) (p0 : Int32) (p1 : Int32) (p2 : Nat) (M0 : k_M) : Prop :=
  ∃ k1, wp_L_inside_L2 G post k1 p0 p1 p2 (2 : Int32) M0
set_option maxHeartbeats 4000000 in
set_option maxRecDepth 100000 in
theorem c_L_inside (l : Launch) (G : k_G) (M0 : k_M) (sz : Nat) (post : Int32 → k_M → Prop) (p0 : Int32) (p1 : Int32) (p2 : Nat) (h : wp_L_inside G post p0 p1 p2 M0) : Met l yL_inside wsL_inside ({ frames := 2, cells := 0, slots := 0, locals := 46 }) (va_Pc [.int p0, .int p1, .ref p2] (kPre G M0 sz)) (va_Qi post (kB G M0 sz) (kA M0 sz)) 0 0 (kA M0 sz) := by
  refine Met.ofW (cc := cL_inside) (maxL := 4) (ret := (some .boolean)) (by decide) rfl ?_
  intro p e s m args below meth c s₁ B hml hv
  obtain ⟨rfl, hsz, hR, hE⟩ := hv
  have hx := B.exec
  have hb := B.bytes
  have hr := B.returns
  have hts := atoms_spec (ws := wsL_inside) B.pre
  have hown : s.vm.findClass RL = some m.cls := findClass_of_methodNamed B.named
  have hlocks := B.notSynchronized
  subst hsz
  have hK := hE.1
  have hA : ∀ q, s.heap.size ≤ q → kA M0 s.heap.size q := kA.new
  have hS : va_S (kA M0 s.heap.size) s.heap s.heap [] := va_S.rf
  have L2 : ∀ (n : Nat), ∀ (x0 : Int32) (x1 : Int32) (x2 : Nat) (x3 : Int32) (M : k_M) (H : Heap) (locs : List Loc) (ls : Array Slot), wp_L_inside_L2 G post n x0 x1 x2 x3 M → lv_has ls 4 [(0, .int x0), (1, .int x1), (2, .ref x2), (3, .int x3)] → kR G M (kA M0 s.heap.size) H → va_S (kA M0 s.heap.size) s.heap H locs → W p l e (headSpec wsL_inside ({ frames := 2, cells := 0, slots := 0, locals := 46 })).room s m ([.int p0, .int p1, .ref p2] : List Value).toArray below meth c H locs 0 0 (MQ below (va_Qi post (kB G M0 s.heap.size) (kA M0 s.heap.size)) ([.int p0, .int p1, .ref p2] : List Value).toArray s 0 0 (kA M0 s.heap.size)) (F0 m 2 ls []) := by
    intro n
    induction n with
    | zero =>
      intro  x0 x1 x2 x3 M H locs ls h
      exact False.elim h
    | succ n ih =>
      intro  x0 x1 x2 x3 M H locs ls h hl hR hS
      refine lv_iload_n hx hb dL_inside_2 rfl (lv_at hl 3 rfl) ?_
      refine lv_bipush (v := (17 : Int32)) hx hb dL_inside_3 (by decide) ?_
      obtain ⟨ha, hb2⟩ := h
      refine lv_icmp_ge (tgt := 37) hx hb dL_inside_5 (by decide) (fun hc => ?_) (fun hc => ?_)
      · replace h := ha hc
        refine lv_iconst (v := (0 : Int32)) hx hb dL_inside_37 (by decide) ?_
        exact k_reti hx hb hr hlocks (by decide) hR hS h dL_inside_38
      · replace h := hb2 hc
        refine lv_iload_n hx hb dL_inside_8 rfl (lv_at hl 1 rfl) ?_
        refine lv_iload_n hx hb dL_inside_9 rfl (lv_at hl 3 rfl) ?_
        obtain ⟨hz2, h⟩ := h
        refine lv_irem hx hb dL_inside_10 hz2 ?_
        obtain ⟨ha, hb2⟩ := h
        refine lv_if_eq (tgt := 30) hx hb dL_inside_11 (by decide) (fun hc => ?_) (fun hc => ?_)
        · replace h := ha hc
          refine lv_iload_n hx hb dL_inside_30 rfl (lv_at hl 3 rfl) ?_
          refine lv_iconst (v := (2 : Int32)) hx hb dL_inside_31 (by decide) ?_
          refine lv_imul hx hb dL_inside_32 ?_
          refine lv_istore_n (lv' := [(3, .int (x3 * (2 : Int32))), (0, .int x0), (1, .int x1), (2, .ref x2)]) hx hb dL_inside_33 rfl hl (by decide) rfl (fun ls hl => ?_)
          refine lv_goto (tgt := 2) hx hb dL_inside_34 (by decide) ?_
          exact ih _ _ _ _ _ _ _ _ h (lv_sub hl [1, 2, 3, 0] rfl) hR hS
        · replace h := hb2 hc
          refine lv_iload_n hx hb dL_inside_14 rfl (lv_at hl 0 rfl) ?_
          refine lv_iload_n hx hb dL_inside_15 rfl (lv_at hl 1 rfl) ?_
          refine lv_iload_n hx hb dL_inside_16 rfl (lv_at hl 1 rfl) ?_
          refine lv_iload_n hx hb dL_inside_17 rfl (lv_at hl 3 rfl) ?_
          obtain ⟨hz3, h⟩ := h
          refine lv_irem hx hb dL_inside_18 hz3 ?_
          refine lv_isub hx hb dL_inside_19 ?_
          refine lv_iload_n hx hb dL_inside_20 rfl (lv_at hl 3 rfl) ?_
          refine lv_aload_n hx hb dL_inside_21 rfl (lv_at hl 2 rfl) ?_
          refine k_calli0 (va_runS (As := [.int x0, .int (x1 - (x1 - x1 / x3 * x3)), .int x3, .ref x2]) (rest := []) ⟨hx, hb, hml, hown, hts⟩ (c_L_alike l G _ _ _ x0 (x1 - (x1 - x1 / x3 * x3)) x3 x2 h) (va_cwS 4 hts gL_inside_L_alike rfl rfl rfl (by decide +kernel) ⟨Nat.le_of_ble_eq_true rfl, Nat.le_of_ble_eq_true rfl⟩) (k_preS hR hS hA hE) rfl rfl hl.1 rfl (lv_room (Nat.le_of_ble_eq_true rfl)) dL_inside_22 ⟨Nat.zero_le _, Nat.zero_le _⟩) hR hS hA (fun r4 M5 H locs h hR hS => ?_)
          obtain ⟨ha, hb2⟩ := h
          refine lv_if_eq (tgt := 30) hx hb dL_inside_25 (by decide) (fun hc => ?_) (fun hc => ?_)
          · replace h := ha hc
            refine lv_iload_n hx hb dL_inside_30 rfl (lv_at hl 3 rfl) ?_
            refine lv_iconst (v := (2 : Int32)) hx hb dL_inside_31 (by decide) ?_
            refine lv_imul hx hb dL_inside_32 ?_
            refine lv_istore_n (lv' := [(3, .int (x3 * (2 : Int32))), (0, .int x0), (1, .int x1), (2, .ref x2)]) hx hb dL_inside_33 rfl hl (by decide) rfl (fun ls hl => ?_)
            refine lv_goto (tgt := 2) hx hb dL_inside_34 (by decide) ?_
            exact ih _ _ _ _ _ _ _ _ h (lv_sub hl [1, 2, 3, 0] rfl) hR hS
          · replace h := hb2 hc
            refine lv_iconst (v := (1 : Int32)) hx hb dL_inside_28 (by decide) ?_
            exact k_reti hx hb hr hlocks (by decide) hR hS h dL_inside_29
  have hl := lv_entry ([.int p0, .int p1, .ref p2]) (n := 4) (Nat.le_of_ble_eq_true rfl)
  rw [lg_entry_eq]
  generalize (lg_sl ([.int p0, .int p1, .ref p2]) ++ List.replicate (4 - (lg_sl ([.int p0, .int p1, .ref p2])).length) Slot.unset).toArray = ls at hl ⊢
  have hl : lv_has ls 4 [(0, .int p0), (1, .int p1), (2, .ref p2)] := hl
  have hR0 := hR
  refine lv_iconst (v := (2 : Int32)) hx hb dL_inside_0 (by decide) ?_
  refine lv_istore_n (lv' := [(3, .int (2 : Int32)), (0, .int p0), (1, .int p1), (2, .ref p2)]) hx hb dL_inside_1 rfl hl (by decide) rfl (fun ls hl => ?_)
  obtain ⟨k1, h⟩ := h
  exact L2 k1 _ _ _ _ _ _ _ _ h (lv_sub hl [1, 2, 3, 0] rfl) hR hS
