def wp_X1_printRow_v0_b14 (G : k_G) (mc ms : Nat) (post : k_M → Prop) (x0 : Nat) (x1 : Int32) (x3 : Nat) (kc : Nat) (ks : Nat) (M : k_M) : Prop :=
  (∃ n1 f2, M x0 = some (kI G n1 f2) ∧ vp_in x1 n1 ∧
    (∃ fs10, M x3 = some (kO 0 fs10) ∧ (∃ mc5 ms6 : Nat, kc + mc5 ≤ mc ∧ ks + ms6 ≤ ms ∧ wp_J4_append_bf812 G mc5 ms6 (fun r7 M8 => ∃ v13, r7 = some v13 ∧
    (kc + mc5) ≤ mc ∧ (ks + ms6) ≤ ms ∧ post M8) x3 (f2 (x1).toNatClampNeg) M)))
def wp_X1_printRow_v0 (G : k_G) (mc ms : Nat) (post : k_M → Prop) (p0 : Nat) (p1 : Int32) (p2 : Int32) (p3 : Nat) (M0 : k_M) : Prop :=
  ((p2 ≤ (1 : Int32) →
  wp_X1_printRow_v0_b14 G mc ms post p0 p1 p3 0 0 M0) ∧
  (¬ p2 ≤ (1 : Int32) →
  (0 ≤ mc ∧ 0 ≤ ms ∧ wp_X1_isLeaf G (fun r14 M15 =>
    ((r14 = 0 →
    (∃ fs24, M15 p3 = some (kO 0 fs24) ∧ (∃ mc19 ms20 : Nat, 0 + mc19 ≤ mc ∧ 0 + ms20 ≤ ms ∧ wp_J4_append_cf468 G mc19 ms20 (fun r21 M22 => ∃ v27, r21 = some v27 ∧
      False) p3 (40 : Int32) M15))) ∧
    (¬ r14 = 0 →
    wp_X1_printRow_v0_b14 G mc ms post p0 p1 p3 0 0 M15))) p0 p1 p2 M0)))
set_option maxHeartbeats 4000000 in
set_option maxRecDepth 100000 in
theorem c_X1_printRow_v0 (l : Launch) (G : k_G) (mc ms : Nat) (M0 : k_M) (sz : Nat) (post : k_M → Prop) (p0 : Nat) (p1 : Int32) (p2 : Int32) (p3 : Nat) (h : wp_X1_printRow_v0 G mc ms post p0 p1 p2 p3 M0) : Met l yX1_printRow wsX1_printRow ({ frames := 6, cells := mc, slots := ms, locals := 130 }) (va_Pc [.ref p0, .int p1, .int p2, .ref p3] (kPre G M0 sz)) (va_Qv post (kB G M0 sz) (kA M0 sz)) mc ms (kA M0 sz) := by
  refine Met.ofW (cc := cX1_printRow) (maxL := 5) (ret := none) (by decide) rfl ?_
  intro p e s m args below meth c s₁ B hml hv
  obtain ⟨rfl, hsz, hR, hE⟩ := hv
  have hx := B.exec
  have hb := B.bytes
  have hr := B.returns
  have hts := atoms_spec (ws := wsX1_printRow) B.pre
  have hown : s.vm.findClass RX1 = some m.cls := findClass_of_methodNamed B.named
  have hlocks := B.notSynchronized
  subst hsz
  have hK := hE.1
  have hA : ∀ q, s.heap.size ≤ q → kA M0 s.heap.size q := kA.new
  have hS : va_S (kA M0 s.heap.size) s.heap s.heap [] := va_S.rf
  have b14 : ∀ (x0 : Nat) (x1 : Int32) (x3 : Nat) (kc : Nat) (ks : Nat) (M : k_M) (H : Heap) (locs : List Loc) (ls : Array Slot), wp_X1_printRow_v0_b14 G mc ms post x0 x1 x3 kc ks M → lv_has ls 5 [(0, .ref x0), (1, .int x1), (3, .ref x3)] → kR G M (kA M0 s.heap.size) H → va_S (kA M0 s.heap.size) s.heap H locs → W p l e (headSpec wsX1_printRow ({ frames := 6, cells := mc, slots := ms, locals := 130 })).room s m ([.ref p0, .int p1, .int p2, .ref p3] : List Value).toArray below meth c H locs kc ks (MQ below (va_Qv post (kB G M0 s.heap.size) (kA M0 s.heap.size)) ([.ref p0, .int p1, .int p2, .ref p3] : List Value).toArray s mc ms (kA M0 s.heap.size)) (F0 m 14 ls []) := by
    intro x0 x1 x3 kc ks M H locs ls h hl hR hS
    refine lv_aload_n hx hb dX1_printRow_14 rfl (lv_at hl 2 rfl) ?_
    refine lv_aload_n hx hb dX1_printRow_15 rfl (lv_at hl 0 rfl) ?_
    refine lv_iload_n hx hb dX1_printRow_16 rfl (lv_at hl 1 rfl) ?_
    obtain ⟨n1, f2, hm3, hv4, h⟩ := h
    refine k_iald hx hb hK hR hm3 hv4 dX1_printRow_17 ?_
    obtain ⟨fs10, hm9, h⟩ := h
    obtain ⟨mc5, ms6, hc11, hc12, h⟩ := h
    refine k_callq (va_runV (As := [.int (f2 (x1).toNatClampNeg)]) (rest := []) ⟨hx, hb, hml, hown, hts⟩ (c_J4_append_bf812 l G mc5 ms6 _ _ _ x3 (f2 (x1).toNatClampNeg) h) (cwV 1 hts gX1_printRow_J4_append_bf812 rfl rfl rfl (by decide +kernel) ⟨Nat.le_of_ble_eq_true rfl, Nat.le_of_ble_eq_true rfl⟩) (k_preV (q := (RJ4, TJ4, 4)) hm9 rfl hR hS hA hE) rfl rfl hl.1 rfl (lv_room (Nat.le_of_ble_eq_true rfl)) dX1_printRow_18 ⟨hc11, hc12⟩) hR hS hA (fun r7 M8 H locs h hR hS => ?_)
    obtain ⟨v13, rfl, h⟩ := h
    refine lv_pop hx hb dX1_printRow_21 rfl ?_
    obtain ⟨hwc, hws, h⟩ := h
    refine W.widen (k := mc) (n := ms) hwc hws ?_
    exact k_retv hx hb hr hlocks hR hS h dX1_printRow_22
  have hl := lv_entry ([.ref p0, .int p1, .int p2, .ref p3]) (n := 5) (Nat.le_of_ble_eq_true rfl)
  rw [lg_entry_eq]
  generalize (lg_sl ([.ref p0, .int p1, .int p2, .ref p3]) ++ List.replicate (5 - (lg_sl ([.ref p0, .int p1, .int p2, .ref p3])).length) Slot.unset).toArray = ls at hl ⊢
  have hl : lv_has ls 5 [(0, .ref p0), (1, .int p1), (2, .int p2), (3, .ref p3)] := hl
  have hR0 := hR
  refine lv_iload_n hx hb dX1_printRow_0 rfl (lv_at hl 2 rfl) ?_
  refine lv_iconst (v := (1 : Int32)) hx hb dX1_printRow_1 (by decide) ?_
  obtain ⟨ha, hb2⟩ := h
  refine lv_icmp_le (tgt := 14) hx hb dX1_printRow_2 (by decide) (fun hc => ?_) (fun hc => ?_)
  · replace h := ha hc
    exact b14 _ _ _ _ _ _ _ _ _ h (lv_sub hl [0, 1, 3] rfl) hR hS
  · replace h := hb2 hc
    refine lv_aload_n hx hb dX1_printRow_5 rfl (lv_at hl 0 rfl) ?_
    refine lv_iload_n hx hb dX1_printRow_6 rfl (lv_at hl 1 rfl) ?_
    refine lv_iload_n hx hb dX1_printRow_7 rfl (lv_at hl 2 rfl) ?_
    obtain ⟨hc17, hc18, h⟩ := h
    refine k_calli0 (va_runS (As := [.ref p0, .int p1, .int p2]) (rest := []) ⟨hx, hb, hml, hown, hts⟩ (c_X1_isLeaf l G _ _ _ p0 p1 p2 h) (va_cwS 3 hts gX1_printRow_X1_isLeaf rfl rfl rfl (by decide +kernel) ⟨Nat.le_of_ble_eq_true rfl, Nat.le_of_ble_eq_true rfl⟩) (k_preS hR hS hA hE) rfl rfl hl.1 rfl (lv_room (Nat.le_of_ble_eq_true rfl)) dX1_printRow_8 ⟨hc17, hc18⟩) hR hS hA (fun r14 M15 H locs h hR hS => ?_)
    obtain ⟨ha, hb2⟩ := h
    refine lv_if_eq (tgt := 23) hx hb dX1_printRow_11 (by decide) (fun hc => ?_) (fun hc => ?_)
    · replace h := ha hc
      refine lv_iload_n hx hb dX1_printRow_23 rfl (lv_at hl 2 rfl) ?_
      refine lv_iconst (v := (2 : Int32)) hx hb dX1_printRow_24 (by decide) ?_
      refine lv_idiv hx hb dX1_printRow_25 (by decide) ?_
      refine lv_istore (lv' := [(4, .int (p2 / (2 : Int32))), (0, .ref p0), (1, .int p1), (2, .int p2), (3, .ref p3)]) hx hb dX1_printRow_26 hl (by decide) rfl (fun ls hl => ?_)
      refine lv_aload_n hx hb dX1_printRow_28 rfl (lv_at hl 4 rfl) ?_
      refine lv_bipush (v := (40 : Int32)) hx hb dX1_printRow_29 (by decide) ?_
      obtain ⟨fs24, hm23, h⟩ := h
      obtain ⟨mc19, ms20, hc25, hc26, h⟩ := h
      refine k_callq (va_runV (As := [.int (40 : Int32)]) (rest := []) ⟨hx, hb, hml, hown, hts⟩ (c_J4_append_cf468 l G mc19 ms20 _ _ _ p3 (40 : Int32) h) (cwV 1 hts gX1_printRow_J4_append_cf468 rfl rfl rfl (by decide +kernel) ⟨Nat.le_of_ble_eq_true rfl, Nat.le_of_ble_eq_true rfl⟩) (k_preV (q := (RJ4, TJ4, 4)) hm23 rfl hR hS hA hE) rfl rfl hl.1 rfl (lv_room (Nat.le_of_ble_eq_true rfl)) dX1_printRow_31 ⟨hc25, hc26⟩) hR hS hA (fun r21 M22 H locs h hR hS => ?_)
      obtain ⟨v27, rfl, h⟩ := h
      refine lv_pop hx hb dX1_printRow_34 rfl ?_
      refine lv_aload_n hx hb dX1_printRow_35 rfl (lv_at hl 1 rfl) ?_
      refine lv_iload_n hx hb dX1_printRow_36 rfl (lv_at hl 2 rfl) ?_
      refine lv_iload hx hb dX1_printRow_37 (lv_at hl 0 rfl) ?_
      refine lv_aload_n hx hb dX1_printRow_39 rfl (lv_at hl 4 rfl) ?_
      exact h.elim
    · replace h := hb2 hc
      exact b14 _ _ _ _ _ _ _ _ _ h (lv_sub hl [0, 1, 3] rfl) hR hS

def wp_X1_printRow_v1_b14 (G : k_G) (mc ms : Nat) (post : k_M → Prop) (x0 : Nat) (x1 : Int32) (x3 : Nat) (kc : Nat) (ks : Nat) (M : k_M) : Prop :=
  (∃ n1 f2, M x0 = some (kI G n1 f2) ∧ vp_in x1 n1 ∧
    (∃ fs10, M x3 = some (kO 0 fs10) ∧ (∃ mc5 ms6 : Nat, kc + mc5 ≤ mc ∧ ks + ms6 ≤ ms ∧ wp_J4_append_bf812 G mc5 ms6 (fun r7 M8 => ∃ v13, r7 = some v13 ∧
    (kc + mc5) ≤ mc ∧ (ks + ms6) ≤ ms ∧ post M8) x3 (f2 (x1).toNatClampNeg) M)))
def wp_X1_printRow_v1 (G : k_G) (mc ms : Nat) (post : k_M → Prop) (p0 : Nat) (p1 : Int32) (p2 : Int32) (p3 : Nat) (M0 : k_M) : Prop :=
  ((p2 ≤ (1 : Int32) →
  wp_X1_printRow_v1_b14 G mc ms post p0 p1 p3 0 0 M0) ∧
  (¬ p2 ≤ (1 : Int32) →
  (0 ≤ mc ∧ 0 ≤ ms ∧ wp_X1_isLeaf G (fun r14 M15 =>
    ((r14 = 0 →
    (∃ fs24, M15 p3 = some (kO 0 fs24) ∧ (∃ mc19 ms20 : Nat, 0 + mc19 ≤ mc ∧ 0 + ms20 ≤ ms ∧ wp_J4_append_cf468 G mc19 ms20 (fun r21 M22 => ∃ v27, r21 = some v27 ∧
      (∃ mc28 ms29 : Nat, (0 + mc19) + mc28 ≤ mc ∧ (0 + ms20) + ms29 ≤ ms ∧ wp_X1_printRow_v0 G mc28 ms29 (fun M31 =>
      (∃ fs40, M31 p3 = some (kO 0 fs40) ∧ (∃ mc35 ms36 : Nat, ((0 + mc19) + mc28) + mc35 ≤ mc ∧ ((0 + ms20) + ms29) + ms36 ≤ ms ∧ wp_J4_append_cf468 G mc35 ms36 (fun r37 M38 => ∃ v43, r37 = some v43 ∧
      (∃ mc44 ms45 : Nat, (((0 + mc19) + mc28) + mc35) + mc44 ≤ mc ∧ (((0 + ms20) + ms29) + ms36) + ms45 ≤ ms ∧ wp_X1_printRow_v0 G mc44 ms45 (fun M47 =>
      (∃ fs56, M47 p3 = some (kO 0 fs56) ∧ (∃ mc51 ms52 : Nat, ((((0 + mc19) + mc28) + mc35) + mc44) + mc51 ≤ mc ∧ ((((0 + ms20) + ms29) + ms36) + ms45) + ms52 ≤ ms ∧ wp_J4_append_cf468 G mc51 ms52 (fun r53 M54 => ∃ v59, r53 = some v59 ∧
      (((((0 + mc19) + mc28) + mc35) + mc44) + mc51) ≤ mc ∧ (((((0 + ms20) + ms29) + ms36) + ms45) + ms52) ≤ ms ∧ post M54) p3 (41 : Int32) M47))) p0 (p1 + (p2 / (2 : Int32))) (p2 / (2 : Int32)) p3 M38)) p3 (44 : Int32) M31))) p0 p1 (p2 / (2 : Int32)) p3 M22)) p3 (40 : Int32) M15))) ∧
    (¬ r14 = 0 →
    wp_X1_printRow_v1_b14 G mc ms post p0 p1 p3 0 0 M15))) p0 p1 p2 M0)))
set_option maxHeartbeats 4000000 in
set_option maxRecDepth 100000 in
theorem c_X1_printRow_v1 (l : Launch) (G : k_G) (mc ms : Nat) (M0 : k_M) (sz : Nat) (post : k_M → Prop) (p0 : Nat) (p1 : Int32) (p2 : Int32) (p3 : Nat) (h : wp_X1_printRow_v1 G mc ms post p0 p1 p2 p3 M0) : Met l yX1_printRow wsX1_printRow ({ frames := 7, cells := mc, slots := ms, locals := 154 }) (va_Pc [.ref p0, .int p1, .int p2, .ref p3] (kPre G M0 sz)) (va_Qv post (kB G M0 sz) (kA M0 sz)) mc ms (kA M0 sz) := by
  refine Met.ofW (cc := cX1_printRow) (maxL := 5) (ret := none) (by decide) rfl ?_
  intro p e s m args below meth c s₁ B hml hv
  obtain ⟨rfl, hsz, hR, hE⟩ := hv
  have hx := B.exec
  have hb := B.bytes
  have hr := B.returns
  have hts := atoms_spec (ws := wsX1_printRow) B.pre
  have hown : s.vm.findClass RX1 = some m.cls := findClass_of_methodNamed B.named
  have hlocks := B.notSynchronized
  subst hsz
  have hK := hE.1
  have hA : ∀ q, s.heap.size ≤ q → kA M0 s.heap.size q := kA.new
  have hS : va_S (kA M0 s.heap.size) s.heap s.heap [] := va_S.rf
  have b14 : ∀ (x0 : Nat) (x1 : Int32) (x3 : Nat) (kc : Nat) (ks : Nat) (M : k_M) (H : Heap) (locs : List Loc) (ls : Array Slot), wp_X1_printRow_v1_b14 G mc ms post x0 x1 x3 kc ks M → lv_has ls 5 [(0, .ref x0), (1, .int x1), (3, .ref x3)] → kR G M (kA M0 s.heap.size) H → va_S (kA M0 s.heap.size) s.heap H locs → W p l e (headSpec wsX1_printRow ({ frames := 7, cells := mc, slots := ms, locals := 154 })).room s m ([.ref p0, .int p1, .int p2, .ref p3] : List Value).toArray below meth c H locs kc ks (MQ below (va_Qv post (kB G M0 s.heap.size) (kA M0 s.heap.size)) ([.ref p0, .int p1, .int p2, .ref p3] : List Value).toArray s mc ms (kA M0 s.heap.size)) (F0 m 14 ls []) := by
    intro x0 x1 x3 kc ks M H locs ls h hl hR hS
    refine lv_aload_n hx hb dX1_printRow_14 rfl (lv_at hl 2 rfl) ?_
    refine lv_aload_n hx hb dX1_printRow_15 rfl (lv_at hl 0 rfl) ?_
    refine lv_iload_n hx hb dX1_printRow_16 rfl (lv_at hl 1 rfl) ?_
    obtain ⟨n1, f2, hm3, hv4, h⟩ := h
    refine k_iald hx hb hK hR hm3 hv4 dX1_printRow_17 ?_
    obtain ⟨fs10, hm9, h⟩ := h
    obtain ⟨mc5, ms6, hc11, hc12, h⟩ := h
    refine k_callq (va_runV (As := [.int (f2 (x1).toNatClampNeg)]) (rest := []) ⟨hx, hb, hml, hown, hts⟩ (c_J4_append_bf812 l G mc5 ms6 _ _ _ x3 (f2 (x1).toNatClampNeg) h) (cwV 1 hts gX1_printRow_J4_append_bf812 rfl rfl rfl (by decide +kernel) ⟨Nat.le_of_ble_eq_true rfl, Nat.le_of_ble_eq_true rfl⟩) (k_preV (q := (RJ4, TJ4, 4)) hm9 rfl hR hS hA hE) rfl rfl hl.1 rfl (lv_room (Nat.le_of_ble_eq_true rfl)) dX1_printRow_18 ⟨hc11, hc12⟩) hR hS hA (fun r7 M8 H locs h hR hS => ?_)
    obtain ⟨v13, rfl, h⟩ := h
    refine lv_pop hx hb dX1_printRow_21 rfl ?_
    obtain ⟨hwc, hws, h⟩ := h
    refine W.widen (k := mc) (n := ms) hwc hws ?_
    exact k_retv hx hb hr hlocks hR hS h dX1_printRow_22
  have hl := lv_entry ([.ref p0, .int p1, .int p2, .ref p3]) (n := 5) (Nat.le_of_ble_eq_true rfl)
  rw [lg_entry_eq]
  generalize (lg_sl ([.ref p0, .int p1, .int p2, .ref p3]) ++ List.replicate (5 - (lg_sl ([.ref p0, .int p1, .int p2, .ref p3])).length) Slot.unset).toArray = ls at hl ⊢
  have hl : lv_has ls 5 [(0, .ref p0), (1, .int p1), (2, .int p2), (3, .ref p3)] := hl
  have hR0 := hR
  refine lv_iload_n hx hb dX1_printRow_0 rfl (lv_at hl 2 rfl) ?_
  refine lv_iconst (v := (1 : Int32)) hx hb dX1_printRow_1 (by decide) ?_
  obtain ⟨ha, hb2⟩ := h
  refine lv_icmp_le (tgt := 14) hx hb dX1_printRow_2 (by decide) (fun hc => ?_) (fun hc => ?_)
  · replace h := ha hc
    exact b14 _ _ _ _ _ _ _ _ _ h (lv_sub hl [0, 1, 3] rfl) hR hS
  · replace h := hb2 hc
    refine lv_aload_n hx hb dX1_printRow_5 rfl (lv_at hl 0 rfl) ?_
    refine lv_iload_n hx hb dX1_printRow_6 rfl (lv_at hl 1 rfl) ?_
    refine lv_iload_n hx hb dX1_printRow_7 rfl (lv_at hl 2 rfl) ?_
    obtain ⟨hc17, hc18, h⟩ := h
    refine k_calli0 (va_runS (As := [.ref p0, .int p1, .int p2]) (rest := []) ⟨hx, hb, hml, hown, hts⟩ (c_X1_isLeaf l G _ _ _ p0 p1 p2 h) (va_cwS 3 hts gX1_printRow_X1_isLeaf rfl rfl rfl (by decide +kernel) ⟨Nat.le_of_ble_eq_true rfl, Nat.le_of_ble_eq_true rfl⟩) (k_preS hR hS hA hE) rfl rfl hl.1 rfl (lv_room (Nat.le_of_ble_eq_true rfl)) dX1_printRow_8 ⟨hc17, hc18⟩) hR hS hA (fun r14 M15 H locs h hR hS => ?_)
    obtain ⟨ha, hb2⟩ := h
    refine lv_if_eq (tgt := 23) hx hb dX1_printRow_11 (by decide) (fun hc => ?_) (fun hc => ?_)
    · replace h := ha hc
      refine lv_iload_n hx hb dX1_printRow_23 rfl (lv_at hl 2 rfl) ?_
      refine lv_iconst (v := (2 : Int32)) hx hb dX1_printRow_24 (by decide) ?_
      refine lv_idiv hx hb dX1_printRow_25 (by decide) ?_
      refine lv_istore (lv' := [(4, .int (p2 / (2 : Int32))), (0, .ref p0), (1, .int p1), (2, .int p2), (3, .ref p3)]) hx hb dX1_printRow_26 hl (by decide) rfl (fun ls hl => ?_)
      refine lv_aload_n hx hb dX1_printRow_28 rfl (lv_at hl 4 rfl) ?_
      refine lv_bipush (v := (40 : Int32)) hx hb dX1_printRow_29 (by decide) ?_
      obtain ⟨fs24, hm23, h⟩ := h
      obtain ⟨mc19, ms20, hc25, hc26, h⟩ := h
      refine k_callq (va_runV (As := [.int (40 : Int32)]) (rest := []) ⟨hx, hb, hml, hown, hts⟩ (c_J4_append_cf468 l G mc19 ms20 _ _ _ p3 (40 : Int32) h) (cwV 1 hts gX1_printRow_J4_append_cf468 rfl rfl rfl (by decide +kernel) ⟨Nat.le_of_ble_eq_true rfl, Nat.le_of_ble_eq_true rfl⟩) (k_preV (q := (RJ4, TJ4, 4)) hm23 rfl hR hS hA hE) rfl rfl hl.1 rfl (lv_room (Nat.le_of_ble_eq_true rfl)) dX1_printRow_31 ⟨hc25, hc26⟩) hR hS hA (fun r21 M22 H locs h hR hS => ?_)
      obtain ⟨v27, rfl, h⟩ := h
      refine lv_pop hx hb dX1_printRow_34 rfl ?_
      refine lv_aload_n hx hb dX1_printRow_35 rfl (lv_at hl 1 rfl) ?_
      refine lv_iload_n hx hb dX1_printRow_36 rfl (lv_at hl 2 rfl) ?_
      refine lv_iload hx hb dX1_printRow_37 (lv_at hl 0 rfl) ?_
      refine lv_aload_n hx hb dX1_printRow_39 rfl (lv_at hl 4 rfl) ?_
      obtain ⟨mc28, ms29, hc33, hc34, h⟩ := h
      refine k_callv (va_runS (As := [.ref p0, .int p1, .int (p2 / (2 : Int32)), .ref p3]) (rest := []) ⟨hx, hb, hml, hown, hts⟩ (c_X1_printRow_v0 l G mc28 ms29 _ _ _ p0 p1 (p2 / (2 : Int32)) p3 h) (va_cwS 4 hts gX1_printRow_X1_printRow rfl rfl rfl (by decide +kernel) ⟨Nat.le_of_ble_eq_true rfl, Nat.le_of_ble_eq_true rfl⟩) (k_preS hR hS hA hE) rfl rfl hl.1 rfl (lv_room (Nat.le_of_ble_eq_true rfl)) dX1_printRow_40 ⟨hc33, hc34⟩) hR hS hA (fun M31 H locs h hR hS => ?_)
      refine lv_aload_n hx hb dX1_printRow_43 rfl (lv_at hl 4 rfl) ?_
      refine lv_bipush (v := (44 : Int32)) hx hb dX1_printRow_44 (by decide) ?_
      obtain ⟨fs40, hm39, h⟩ := h
      obtain ⟨mc35, ms36, hc41, hc42, h⟩ := h
      refine k_callq (va_runV (As := [.int (44 : Int32)]) (rest := []) ⟨hx, hb, hml, hown, hts⟩ (c_J4_append_cf468 l G mc35 ms36 _ _ _ p3 (44 : Int32) h) (cwV 1 hts gX1_printRow_J4_append_cf468 rfl rfl rfl (by decide +kernel) ⟨Nat.le_of_ble_eq_true rfl, Nat.le_of_ble_eq_true rfl⟩) (k_preV (q := (RJ4, TJ4, 4)) hm39 rfl hR hS hA hE) rfl rfl hl.1 rfl (lv_room (Nat.le_of_ble_eq_true rfl)) dX1_printRow_46 ⟨hc41, hc42⟩) hR hS hA (fun r37 M38 H locs h hR hS => ?_)
      obtain ⟨v43, rfl, h⟩ := h
      refine lv_pop hx hb dX1_printRow_49 rfl ?_
      refine lv_aload_n hx hb dX1_printRow_50 rfl (lv_at hl 1 rfl) ?_
      refine lv_iload_n hx hb dX1_printRow_51 rfl (lv_at hl 2 rfl) ?_
      refine lv_iload hx hb dX1_printRow_52 (lv_at hl 0 rfl) ?_
      refine lv_iadd hx hb dX1_printRow_54 ?_
      refine lv_iload hx hb dX1_printRow_55 (lv_at hl 0 rfl) ?_
      refine lv_aload_n hx hb dX1_printRow_57 rfl (lv_at hl 4 rfl) ?_
      obtain ⟨mc44, ms45, hc49, hc50, h⟩ := h
      refine k_callv (va_runS (As := [.ref p0, .int (p1 + (p2 / (2 : Int32))), .int (p2 / (2 : Int32)), .ref p3]) (rest := []) ⟨hx, hb, hml, hown, hts⟩ (c_X1_printRow_v0 l G mc44 ms45 _ _ _ p0 (p1 + (p2 / (2 : Int32))) (p2 / (2 : Int32)) p3 h) (va_cwS 4 hts gX1_printRow_X1_printRow rfl rfl rfl (by decide +kernel) ⟨Nat.le_of_ble_eq_true rfl, Nat.le_of_ble_eq_true rfl⟩) (k_preS hR hS hA hE) rfl rfl hl.1 rfl (lv_room (Nat.le_of_ble_eq_true rfl)) dX1_printRow_58 ⟨hc49, hc50⟩) hR hS hA (fun M47 H locs h hR hS => ?_)
      refine lv_aload_n hx hb dX1_printRow_61 rfl (lv_at hl 4 rfl) ?_
      refine lv_bipush (v := (41 : Int32)) hx hb dX1_printRow_62 (by decide) ?_
      obtain ⟨fs56, hm55, h⟩ := h
      obtain ⟨mc51, ms52, hc57, hc58, h⟩ := h
      refine k_callq (va_runV (As := [.int (41 : Int32)]) (rest := []) ⟨hx, hb, hml, hown, hts⟩ (c_J4_append_cf468 l G mc51 ms52 _ _ _ p3 (41 : Int32) h) (cwV 1 hts gX1_printRow_J4_append_cf468 rfl rfl rfl (by decide +kernel) ⟨Nat.le_of_ble_eq_true rfl, Nat.le_of_ble_eq_true rfl⟩) (k_preV (q := (RJ4, TJ4, 4)) hm55 rfl hR hS hA hE) rfl rfl hl.1 rfl (lv_room (Nat.le_of_ble_eq_true rfl)) dX1_printRow_64 ⟨hc57, hc58⟩) hR hS hA (fun r53 M54 H locs h hR hS => ?_)
      obtain ⟨v59, rfl, h⟩ := h
      refine lv_pop hx hb dX1_printRow_67 rfl ?_
      obtain ⟨hwc, hws, h⟩ := h
      refine W.widen (k := mc) (n := ms) hwc hws ?_
      exact k_retv hx hb hr hlocks hR hS h dX1_printRow_68
    · replace h := hb2 hc
      exact b14 _ _ _ _ _ _ _ _ _ h (lv_sub hl [0, 1, 3] rfl) hR hS

def wp_X1_printRow_v2_b14 (G : k_G) (mc ms : Nat) (post : k_M → Prop) (x0 : Nat) (x1 : Int32) (x3 : Nat) (kc : Nat) (ks : Nat) (M : k_M) : Prop :=
  (∃ n1 f2, M x0 = some (kI G n1 f2) ∧ vp_in x1 n1 ∧
    (∃ fs10, M x3 = some (kO 0 fs10) ∧ (∃ mc5 ms6 : Nat, kc + mc5 ≤ mc ∧ ks + ms6 ≤ ms ∧ wp_J4_append_bf812 G mc5 ms6 (fun r7 M8 => ∃ v13, r7 = some v13 ∧
    (kc + mc5) ≤ mc ∧ (ks + ms6) ≤ ms ∧ post M8) x3 (f2 (x1).toNatClampNeg) M)))
def wp_X1_printRow_v2 (G : k_G) (mc ms : Nat) (post : k_M → Prop) (p0 : Nat) (p1 : Int32) (p2 : Int32) (p3 : Nat) (M0 : k_M) : Prop :=
  ((p2 ≤ (1 : Int32) →
  wp_X1_printRow_v2_b14 G mc ms post p0 p1 p3 0 0 M0) ∧
  (¬ p2 ≤ (1 : Int32) →
  (0 ≤ mc ∧ 0 ≤ ms ∧ wp_X1_isLeaf G (fun r14 M15 =>
    ((r14 = 0 →
    (∃ fs24, M15 p3 = some (kO 0 fs24) ∧ (∃ mc19 ms20 : Nat, 0 + mc19 ≤ mc ∧ 0 + ms20 ≤ ms ∧ wp_J4_append_cf468 G mc19 ms20 (fun r21 M22 => ∃ v27, r21 = some v27 ∧
      (∃ mc28 ms29 : Nat, (0 + mc19) + mc28 ≤ mc ∧ (0 + ms20) + ms29 ≤ ms ∧ wp_X1_printRow_v1 G mc28 ms29 (fun M31 =>
      (∃ fs40, M31 p3 = some (kO 0 fs40) ∧ (∃ mc35 ms36 : Nat, ((0 + mc19) + mc28) + mc35 ≤ mc ∧ ((0 + ms20) + ms29) + ms36 ≤ ms ∧ wp_J4_append_cf468 G mc35 ms36 (fun r37 M38 => ∃ v43, r37 = some v43 ∧
      (∃ mc44 ms45 : Nat, (((0 + mc19) + mc28) + mc35) + mc44 ≤ mc ∧ (((0 + ms20) + ms29) + ms36) + ms45 ≤ ms ∧ wp_X1_printRow_v1 G mc44 ms45 (fun M47 =>
      (∃ fs56, M47 p3 = some (kO 0 fs56) ∧ (∃ mc51 ms52 : Nat, ((((0 + mc19) + mc28) + mc35) + mc44) + mc51 ≤ mc ∧ ((((0 + ms20) + ms29) + ms36) + ms45) + ms52 ≤ ms ∧ wp_J4_append_cf468 G mc51 ms52 (fun r53 M54 => ∃ v59, r53 = some v59 ∧
      (((((0 + mc19) + mc28) + mc35) + mc44) + mc51) ≤ mc ∧ (((((0 + ms20) + ms29) + ms36) + ms45) + ms52) ≤ ms ∧ post M54) p3 (41 : Int32) M47))) p0 (p1 + (p2 / (2 : Int32))) (p2 / (2 : Int32)) p3 M38)) p3 (44 : Int32) M31))) p0 p1 (p2 / (2 : Int32)) p3 M22)) p3 (40 : Int32) M15))) ∧
    (¬ r14 = 0 →
    wp_X1_printRow_v2_b14 G mc ms post p0 p1 p3 0 0 M15))) p0 p1 p2 M0)))
set_option maxHeartbeats 4000000 in
set_option maxRecDepth 100000 in
theorem c_X1_printRow_v2 (l : Launch) (G : k_G) (mc ms : Nat) (M0 : k_M) (sz : Nat) (post : k_M → Prop) (p0 : Nat) (p1 : Int32) (p2 : Int32) (p3 : Nat) (h : wp_X1_printRow_v2 G mc ms post p0 p1 p2 p3 M0) : Met l yX1_printRow wsX1_printRow ({ frames := 8, cells := mc, slots := ms, locals := 178 }) (va_Pc [.ref p0, .int p1, .int p2, .ref p3] (kPre G M0 sz)) (va_Qv post (kB G M0 sz) (kA M0 sz)) mc ms (kA M0 sz) := by
  refine Met.ofW (cc := cX1_printRow) (maxL := 5) (ret := none) (by decide) rfl ?_
  intro p e s m args below meth c s₁ B hml hv
  obtain ⟨rfl, hsz, hR, hE⟩ := hv
  have hx := B.exec
  have hb := B.bytes
  have hr := B.returns
  have hts := atoms_spec (ws := wsX1_printRow) B.pre
  have hown : s.vm.findClass RX1 = some m.cls := findClass_of_methodNamed B.named
  have hlocks := B.notSynchronized
  subst hsz
  have hK := hE.1
  have hA : ∀ q, s.heap.size ≤ q → kA M0 s.heap.size q := kA.new
  have hS : va_S (kA M0 s.heap.size) s.heap s.heap [] := va_S.rf
  have b14 : ∀ (x0 : Nat) (x1 : Int32) (x3 : Nat) (kc : Nat) (ks : Nat) (M : k_M) (H : Heap) (locs : List Loc) (ls : Array Slot), wp_X1_printRow_v2_b14 G mc ms post x0 x1 x3 kc ks M → lv_has ls 5 [(0, .ref x0), (1, .int x1), (3, .ref x3)] → kR G M (kA M0 s.heap.size) H → va_S (kA M0 s.heap.size) s.heap H locs → W p l e (headSpec wsX1_printRow ({ frames := 8, cells := mc, slots := ms, locals := 178 })).room s m ([.ref p0, .int p1, .int p2, .ref p3] : List Value).toArray below meth c H locs kc ks (MQ below (va_Qv post (kB G M0 s.heap.size) (kA M0 s.heap.size)) ([.ref p0, .int p1, .int p2, .ref p3] : List Value).toArray s mc ms (kA M0 s.heap.size)) (F0 m 14 ls []) := by
    intro x0 x1 x3 kc ks M H locs ls h hl hR hS
    refine lv_aload_n hx hb dX1_printRow_14 rfl (lv_at hl 2 rfl) ?_
    refine lv_aload_n hx hb dX1_printRow_15 rfl (lv_at hl 0 rfl) ?_
    refine lv_iload_n hx hb dX1_printRow_16 rfl (lv_at hl 1 rfl) ?_
    obtain ⟨n1, f2, hm3, hv4, h⟩ := h
    refine k_iald hx hb hK hR hm3 hv4 dX1_printRow_17 ?_
    obtain ⟨fs10, hm9, h⟩ := h
    obtain ⟨mc5, ms6, hc11, hc12, h⟩ := h
    refine k_callq (va_runV (As := [.int (f2 (x1).toNatClampNeg)]) (rest := []) ⟨hx, hb, hml, hown, hts⟩ (c_J4_append_bf812 l G mc5 ms6 _ _ _ x3 (f2 (x1).toNatClampNeg) h) (cwV 1 hts gX1_printRow_J4_append_bf812 rfl rfl rfl (by decide +kernel) ⟨Nat.le_of_ble_eq_true rfl, Nat.le_of_ble_eq_true rfl⟩) (k_preV (q := (RJ4, TJ4, 4)) hm9 rfl hR hS hA hE) rfl rfl hl.1 rfl (lv_room (Nat.le_of_ble_eq_true rfl)) dX1_printRow_18 ⟨hc11, hc12⟩) hR hS hA (fun r7 M8 H locs h hR hS => ?_)
    obtain ⟨v13, rfl, h⟩ := h
    refine lv_pop hx hb dX1_printRow_21 rfl ?_
    obtain ⟨hwc, hws, h⟩ := h
    refine W.widen (k := mc) (n := ms) hwc hws ?_
    exact k_retv hx hb hr hlocks hR hS h dX1_printRow_22
  have hl := lv_entry ([.ref p0, .int p1, .int p2, .ref p3]) (n := 5) (Nat.le_of_ble_eq_true rfl)
  rw [lg_entry_eq]
  generalize (lg_sl ([.ref p0, .int p1, .int p2, .ref p3]) ++ List.replicate (5 - (lg_sl ([.ref p0, .int p1, .int p2, .ref p3])).length) Slot.unset).toArray = ls at hl ⊢
  have hl : lv_has ls 5 [(0, .ref p0), (1, .int p1), (2, .int p2), (3, .ref p3)] := hl
  have hR0 := hR
  refine lv_iload_n hx hb dX1_printRow_0 rfl (lv_at hl 2 rfl) ?_
  refine lv_iconst (v := (1 : Int32)) hx hb dX1_printRow_1 (by decide) ?_
  obtain ⟨ha, hb2⟩ := h
  refine lv_icmp_le (tgt := 14) hx hb dX1_printRow_2 (by decide) (fun hc => ?_) (fun hc => ?_)
  · replace h := ha hc
    exact b14 _ _ _ _ _ _ _ _ _ h (lv_sub hl [0, 1, 3] rfl) hR hS
  · replace h := hb2 hc
    refine lv_aload_n hx hb dX1_printRow_5 rfl (lv_at hl 0 rfl) ?_
    refine lv_iload_n hx hb dX1_printRow_6 rfl (lv_at hl 1 rfl) ?_
    refine lv_iload_n hx hb dX1_printRow_7 rfl (lv_at hl 2 rfl) ?_
    obtain ⟨hc17, hc18, h⟩ := h
    refine k_calli0 (va_runS (As := [.ref p0, .int p1, .int p2]) (rest := []) ⟨hx, hb, hml, hown, hts⟩ (c_X1_isLeaf l G _ _ _ p0 p1 p2 h) (va_cwS 3 hts gX1_printRow_X1_isLeaf rfl rfl rfl (by decide +kernel) ⟨Nat.le_of_ble_eq_true rfl, Nat.le_of_ble_eq_true rfl⟩) (k_preS hR hS hA hE) rfl rfl hl.1 rfl (lv_room (Nat.le_of_ble_eq_true rfl)) dX1_printRow_8 ⟨hc17, hc18⟩) hR hS hA (fun r14 M15 H locs h hR hS => ?_)
    obtain ⟨ha, hb2⟩ := h
    refine lv_if_eq (tgt := 23) hx hb dX1_printRow_11 (by decide) (fun hc => ?_) (fun hc => ?_)
    · replace h := ha hc
      refine lv_iload_n hx hb dX1_printRow_23 rfl (lv_at hl 2 rfl) ?_
      refine lv_iconst (v := (2 : Int32)) hx hb dX1_printRow_24 (by decide) ?_
      refine lv_idiv hx hb dX1_printRow_25 (by decide) ?_
      refine lv_istore (lv' := [(4, .int (p2 / (2 : Int32))), (0, .ref p0), (1, .int p1), (2, .int p2), (3, .ref p3)]) hx hb dX1_printRow_26 hl (by decide) rfl (fun ls hl => ?_)
      refine lv_aload_n hx hb dX1_printRow_28 rfl (lv_at hl 4 rfl) ?_
      refine lv_bipush (v := (40 : Int32)) hx hb dX1_printRow_29 (by decide) ?_
      obtain ⟨fs24, hm23, h⟩ := h
      obtain ⟨mc19, ms20, hc25, hc26, h⟩ := h
      refine k_callq (va_runV (As := [.int (40 : Int32)]) (rest := []) ⟨hx, hb, hml, hown, hts⟩ (c_J4_append_cf468 l G mc19 ms20 _ _ _ p3 (40 : Int32) h) (cwV 1 hts gX1_printRow_J4_append_cf468 rfl rfl rfl (by decide +kernel) ⟨Nat.le_of_ble_eq_true rfl, Nat.le_of_ble_eq_true rfl⟩) (k_preV (q := (RJ4, TJ4, 4)) hm23 rfl hR hS hA hE) rfl rfl hl.1 rfl (lv_room (Nat.le_of_ble_eq_true rfl)) dX1_printRow_31 ⟨hc25, hc26⟩) hR hS hA (fun r21 M22 H locs h hR hS => ?_)
      obtain ⟨v27, rfl, h⟩ := h
      refine lv_pop hx hb dX1_printRow_34 rfl ?_
      refine lv_aload_n hx hb dX1_printRow_35 rfl (lv_at hl 1 rfl) ?_
      refine lv_iload_n hx hb dX1_printRow_36 rfl (lv_at hl 2 rfl) ?_
      refine lv_iload hx hb dX1_printRow_37 (lv_at hl 0 rfl) ?_
      refine lv_aload_n hx hb dX1_printRow_39 rfl (lv_at hl 4 rfl) ?_
      obtain ⟨mc28, ms29, hc33, hc34, h⟩ := h
      refine k_callv (va_runS (As := [.ref p0, .int p1, .int (p2 / (2 : Int32)), .ref p3]) (rest := []) ⟨hx, hb, hml, hown, hts⟩ (c_X1_printRow_v1 l G mc28 ms29 _ _ _ p0 p1 (p2 / (2 : Int32)) p3 h) (va_cwS 4 hts gX1_printRow_X1_printRow rfl rfl rfl (by decide +kernel) ⟨Nat.le_of_ble_eq_true rfl, Nat.le_of_ble_eq_true rfl⟩) (k_preS hR hS hA hE) rfl rfl hl.1 rfl (lv_room (Nat.le_of_ble_eq_true rfl)) dX1_printRow_40 ⟨hc33, hc34⟩) hR hS hA (fun M31 H locs h hR hS => ?_)
      refine lv_aload_n hx hb dX1_printRow_43 rfl (lv_at hl 4 rfl) ?_
      refine lv_bipush (v := (44 : Int32)) hx hb dX1_printRow_44 (by decide) ?_
      obtain ⟨fs40, hm39, h⟩ := h
      obtain ⟨mc35, ms36, hc41, hc42, h⟩ := h
      refine k_callq (va_runV (As := [.int (44 : Int32)]) (rest := []) ⟨hx, hb, hml, hown, hts⟩ (c_J4_append_cf468 l G mc35 ms36 _ _ _ p3 (44 : Int32) h) (cwV 1 hts gX1_printRow_J4_append_cf468 rfl rfl rfl (by decide +kernel) ⟨Nat.le_of_ble_eq_true rfl, Nat.le_of_ble_eq_true rfl⟩) (k_preV (q := (RJ4, TJ4, 4)) hm39 rfl hR hS hA hE) rfl rfl hl.1 rfl (lv_room (Nat.le_of_ble_eq_true rfl)) dX1_printRow_46 ⟨hc41, hc42⟩) hR hS hA (fun r37 M38 H locs h hR hS => ?_)
      obtain ⟨v43, rfl, h⟩ := h
      refine lv_pop hx hb dX1_printRow_49 rfl ?_
      refine lv_aload_n hx hb dX1_printRow_50 rfl (lv_at hl 1 rfl) ?_
      refine lv_iload_n hx hb dX1_printRow_51 rfl (lv_at hl 2 rfl) ?_
      refine lv_iload hx hb dX1_printRow_52 (lv_at hl 0 rfl) ?_
      refine lv_iadd hx hb dX1_printRow_54 ?_
      refine lv_iload hx hb dX1_printRow_55 (lv_at hl 0 rfl) ?_
      refine lv_aload_n hx hb dX1_printRow_57 rfl (lv_at hl 4 rfl) ?_
      obtain ⟨mc44, ms45, hc49, hc50, h⟩ := h
      refine k_callv (va_runS (As := [.ref p0, .int (p1 + (p2 / (2 : Int32))), .int (p2 / (2 : Int32)), .ref p3]) (rest := []) ⟨hx, hb, hml, hown, hts⟩ (c_X1_printRow_v1 l G mc44 ms45 _ _ _ p0 (p1 + (p2 / (2 : Int32))) (p2 / (2 : Int32)) p3 h) (va_cwS 4 hts gX1_printRow_X1_printRow rfl rfl rfl (by decide +kernel) ⟨Nat.le_of_ble_eq_true rfl, Nat.le_of_ble_eq_true rfl⟩) (k_preS hR hS hA hE) rfl rfl hl.1 rfl (lv_room (Nat.le_of_ble_eq_true rfl)) dX1_printRow_58 ⟨hc49, hc50⟩) hR hS hA (fun M47 H locs h hR hS => ?_)
      refine lv_aload_n hx hb dX1_printRow_61 rfl (lv_at hl 4 rfl) ?_
      refine lv_bipush (v := (41 : Int32)) hx hb dX1_printRow_62 (by decide) ?_
      obtain ⟨fs56, hm55, h⟩ := h
      obtain ⟨mc51, ms52, hc57, hc58, h⟩ := h
      refine k_callq (va_runV (As := [.int (41 : Int32)]) (rest := []) ⟨hx, hb, hml, hown, hts⟩ (c_J4_append_cf468 l G mc51 ms52 _ _ _ p3 (41 : Int32) h) (cwV 1 hts gX1_printRow_J4_append_cf468 rfl rfl rfl (by decide +kernel) ⟨Nat.le_of_ble_eq_true rfl, Nat.le_of_ble_eq_true rfl⟩) (k_preV (q := (RJ4, TJ4, 4)) hm55 rfl hR hS hA hE) rfl rfl hl.1 rfl (lv_room (Nat.le_of_ble_eq_true rfl)) dX1_printRow_64 ⟨hc57, hc58⟩) hR hS hA (fun r53 M54 H locs h hR hS => ?_)
      obtain ⟨v59, rfl, h⟩ := h
      refine lv_pop hx hb dX1_printRow_67 rfl ?_
      obtain ⟨hwc, hws, h⟩ := h
      refine W.widen (k := mc) (n := ms) hwc hws ?_
      exact k_retv hx hb hr hlocks hR hS h dX1_printRow_68
    · replace h := hb2 hc
      exact b14 _ _ _ _ _ _ _ _ _ h (lv_sub hl [0, 1, 3] rfl) hR hS

def wp_X1_printRow_v3_b14 (G : k_G) (mc ms : Nat) (post : k_M → Prop) (x0 : Nat) (x1 : Int32) (x3 : Nat) (kc : Nat) (ks : Nat) (M : k_M) : Prop :=
  (∃ n1 f2, M x0 = some (kI G n1 f2) ∧ vp_in x1 n1 ∧
    (∃ fs10, M x3 = some (kO 0 fs10) ∧ (∃ mc5 ms6 : Nat, kc + mc5 ≤ mc ∧ ks + ms6 ≤ ms ∧ wp_J4_append_bf812 G mc5 ms6 (fun r7 M8 => ∃ v13, r7 = some v13 ∧
    (kc + mc5) ≤ mc ∧ (ks + ms6) ≤ ms ∧ post M8) x3 (f2 (x1).toNatClampNeg) M)))
def wp_X1_printRow_v3 (G : k_G) (mc ms : Nat) (post : k_M → Prop) (p0 : Nat) (p1 : Int32) (p2 : Int32) (p3 : Nat) (M0 : k_M) : Prop :=
  ((p2 ≤ (1 : Int32) →
  wp_X1_printRow_v3_b14 G mc ms post p0 p1 p3 0 0 M0) ∧
  (¬ p2 ≤ (1 : Int32) →
  (0 ≤ mc ∧ 0 ≤ ms ∧ wp_X1_isLeaf G (fun r14 M15 =>
    ((r14 = 0 →
    (∃ fs24, M15 p3 = some (kO 0 fs24) ∧ (∃ mc19 ms20 : Nat, 0 + mc19 ≤ mc ∧ 0 + ms20 ≤ ms ∧ wp_J4_append_cf468 G mc19 ms20 (fun r21 M22 => ∃ v27, r21 = some v27 ∧
      (∃ mc28 ms29 : Nat, (0 + mc19) + mc28 ≤ mc ∧ (0 + ms20) + ms29 ≤ ms ∧ wp_X1_printRow_v2 G mc28 ms29 (fun M31 =>
      (∃ fs40, M31 p3 = some (kO 0 fs40) ∧ (∃ mc35 ms36 : Nat, ((0 + mc19) + mc28) + mc35 ≤ mc ∧ ((0 + ms20) + ms29) + ms36 ≤ ms ∧ wp_J4_append_cf468 G mc35 ms36 (fun r37 M38 => ∃ v43, r37 = some v43 ∧
      (∃ mc44 ms45 : Nat, (((0 + mc19) + mc28) + mc35) + mc44 ≤ mc ∧ (((0 + ms20) + ms29) + ms36) + ms45 ≤ ms ∧ wp_X1_printRow_v2 G mc44 ms45 (fun M47 =>
      (∃ fs56, M47 p3 = some (kO 0 fs56) ∧ (∃ mc51 ms52 : Nat, ((((0 + mc19) + mc28) + mc35) + mc44) + mc51 ≤ mc ∧ ((((0 + ms20) + ms29) + ms36) + ms45) + ms52 ≤ ms ∧ wp_J4_append_cf468 G mc51 ms52 (fun r53 M54 => ∃ v59, r53 = some v59 ∧
      (((((0 + mc19) + mc28) + mc35) + mc44) + mc51) ≤ mc ∧ (((((0 + ms20) + ms29) + ms36) + ms45) + ms52) ≤ ms ∧ post M54) p3 (41 : Int32) M47))) p0 (p1 + (p2 / (2 : Int32))) (p2 / (2 : Int32)) p3 M38)) p3 (44 : Int32) M31))) p0 p1 (p2 / (2 : Int32)) p3 M22)) p3 (40 : Int32) M15))) ∧
    (¬ r14 = 0 →
    wp_X1_printRow_v3_b14 G mc ms post p0 p1 p3 0 0 M15))) p0 p1 p2 M0)))
set_option maxHeartbeats 4000000 in
set_option maxRecDepth 100000 in
theorem c_X1_printRow_v3 (l : Launch) (G : k_G) (mc ms : Nat) (M0 : k_M) (sz : Nat) (post : k_M → Prop) (p0 : Nat) (p1 : Int32) (p2 : Int32) (p3 : Nat) (h : wp_X1_printRow_v3 G mc ms post p0 p1 p2 p3 M0) : Met l yX1_printRow wsX1_printRow ({ frames := 9, cells := mc, slots := ms, locals := 202 }) (va_Pc [.ref p0, .int p1, .int p2, .ref p3] (kPre G M0 sz)) (va_Qv post (kB G M0 sz) (kA M0 sz)) mc ms (kA M0 sz) := by
  refine Met.ofW (cc := cX1_printRow) (maxL := 5) (ret := none) (by decide) rfl ?_
  intro p e s m args below meth c s₁ B hml hv
  obtain ⟨rfl, hsz, hR, hE⟩ := hv
  have hx := B.exec
  have hb := B.bytes
  have hr := B.returns
  have hts := atoms_spec (ws := wsX1_printRow) B.pre
  have hown : s.vm.findClass RX1 = some m.cls := findClass_of_methodNamed B.named
  have hlocks := B.notSynchronized
  subst hsz
  have hK := hE.1
  have hA : ∀ q, s.heap.size ≤ q → kA M0 s.heap.size q := kA.new
  have hS : va_S (kA M0 s.heap.size) s.heap s.heap [] := va_S.rf
  have b14 : ∀ (x0 : Nat) (x1 : Int32) (x3 : Nat) (kc : Nat) (ks : Nat) (M : k_M) (H : Heap) (locs : List Loc) (ls : Array Slot), wp_X1_printRow_v3_b14 G mc ms post x0 x1 x3 kc ks M → lv_has ls 5 [(0, .ref x0), (1, .int x1), (3, .ref x3)] → kR G M (kA M0 s.heap.size) H → va_S (kA M0 s.heap.size) s.heap H locs → W p l e (headSpec wsX1_printRow ({ frames := 9, cells := mc, slots := ms, locals := 202 })).room s m ([.ref p0, .int p1, .int p2, .ref p3] : List Value).toArray below meth c H locs kc ks (MQ below (va_Qv post (kB G M0 s.heap.size) (kA M0 s.heap.size)) ([.ref p0, .int p1, .int p2, .ref p3] : List Value).toArray s mc ms (kA M0 s.heap.size)) (F0 m 14 ls []) := by
    intro x0 x1 x3 kc ks M H locs ls h hl hR hS
    refine lv_aload_n hx hb dX1_printRow_14 rfl (lv_at hl 2 rfl) ?_
    refine lv_aload_n hx hb dX1_printRow_15 rfl (lv_at hl 0 rfl) ?_
    refine lv_iload_n hx hb dX1_printRow_16 rfl (lv_at hl 1 rfl) ?_
    obtain ⟨n1, f2, hm3, hv4, h⟩ := h
    refine k_iald hx hb hK hR hm3 hv4 dX1_printRow_17 ?_
    obtain ⟨fs10, hm9, h⟩ := h
    obtain ⟨mc5, ms6, hc11, hc12, h⟩ := h
    refine k_callq (va_runV (As := [.int (f2 (x1).toNatClampNeg)]) (rest := []) ⟨hx, hb, hml, hown, hts⟩ (c_J4_append_bf812 l G mc5 ms6 _ _ _ x3 (f2 (x1).toNatClampNeg) h) (cwV 1 hts gX1_printRow_J4_append_bf812 rfl rfl rfl (by decide +kernel) ⟨Nat.le_of_ble_eq_true rfl, Nat.le_of_ble_eq_true rfl⟩) (k_preV (q := (RJ4, TJ4, 4)) hm9 rfl hR hS hA hE) rfl rfl hl.1 rfl (lv_room (Nat.le_of_ble_eq_true rfl)) dX1_printRow_18 ⟨hc11, hc12⟩) hR hS hA (fun r7 M8 H locs h hR hS => ?_)
    obtain ⟨v13, rfl, h⟩ := h
    refine lv_pop hx hb dX1_printRow_21 rfl ?_
    obtain ⟨hwc, hws, h⟩ := h
    refine W.widen (k := mc) (n := ms) hwc hws ?_
    exact k_retv hx hb hr hlocks hR hS h dX1_printRow_22
  have hl := lv_entry ([.ref p0, .int p1, .int p2, .ref p3]) (n := 5) (Nat.le_of_ble_eq_true rfl)
  rw [lg_entry_eq]
  generalize (lg_sl ([.ref p0, .int p1, .int p2, .ref p3]) ++ List.replicate (5 - (lg_sl ([.ref p0, .int p1, .int p2, .ref p3])).length) Slot.unset).toArray = ls at hl ⊢
  have hl : lv_has ls 5 [(0, .ref p0), (1, .int p1), (2, .int p2), (3, .ref p3)] := hl
  have hR0 := hR
  refine lv_iload_n hx hb dX1_printRow_0 rfl (lv_at hl 2 rfl) ?_
  refine lv_iconst (v := (1 : Int32)) hx hb dX1_printRow_1 (by decide) ?_
  obtain ⟨ha, hb2⟩ := h
  refine lv_icmp_le (tgt := 14) hx hb dX1_printRow_2 (by decide) (fun hc => ?_) (fun hc => ?_)
  · replace h := ha hc
    exact b14 _ _ _ _ _ _ _ _ _ h (lv_sub hl [0, 1, 3] rfl) hR hS
  · replace h := hb2 hc
    refine lv_aload_n hx hb dX1_printRow_5 rfl (lv_at hl 0 rfl) ?_
    refine lv_iload_n hx hb dX1_printRow_6 rfl (lv_at hl 1 rfl) ?_
    refine lv_iload_n hx hb dX1_printRow_7 rfl (lv_at hl 2 rfl) ?_
    obtain ⟨hc17, hc18, h⟩ := h
    refine k_calli0 (va_runS (As := [.ref p0, .int p1, .int p2]) (rest := []) ⟨hx, hb, hml, hown, hts⟩ (c_X1_isLeaf l G _ _ _ p0 p1 p2 h) (va_cwS 3 hts gX1_printRow_X1_isLeaf rfl rfl rfl (by decide +kernel) ⟨Nat.le_of_ble_eq_true rfl, Nat.le_of_ble_eq_true rfl⟩) (k_preS hR hS hA hE) rfl rfl hl.1 rfl (lv_room (Nat.le_of_ble_eq_true rfl)) dX1_printRow_8 ⟨hc17, hc18⟩) hR hS hA (fun r14 M15 H locs h hR hS => ?_)
    obtain ⟨ha, hb2⟩ := h
    refine lv_if_eq (tgt := 23) hx hb dX1_printRow_11 (by decide) (fun hc => ?_) (fun hc => ?_)
    · replace h := ha hc
      refine lv_iload_n hx hb dX1_printRow_23 rfl (lv_at hl 2 rfl) ?_
      refine lv_iconst (v := (2 : Int32)) hx hb dX1_printRow_24 (by decide) ?_
      refine lv_idiv hx hb dX1_printRow_25 (by decide) ?_
      refine lv_istore (lv' := [(4, .int (p2 / (2 : Int32))), (0, .ref p0), (1, .int p1), (2, .int p2), (3, .ref p3)]) hx hb dX1_printRow_26 hl (by decide) rfl (fun ls hl => ?_)
      refine lv_aload_n hx hb dX1_printRow_28 rfl (lv_at hl 4 rfl) ?_
      refine lv_bipush (v := (40 : Int32)) hx hb dX1_printRow_29 (by decide) ?_
      obtain ⟨fs24, hm23, h⟩ := h
      obtain ⟨mc19, ms20, hc25, hc26, h⟩ := h
      refine k_callq (va_runV (As := [.int (40 : Int32)]) (rest := []) ⟨hx, hb, hml, hown, hts⟩ (c_J4_append_cf468 l G mc19 ms20 _ _ _ p3 (40 : Int32) h) (cwV 1 hts gX1_printRow_J4_append_cf468 rfl rfl rfl (by decide +kernel) ⟨Nat.le_of_ble_eq_true rfl, Nat.le_of_ble_eq_true rfl⟩) (k_preV (q := (RJ4, TJ4, 4)) hm23 rfl hR hS hA hE) rfl rfl hl.1 rfl (lv_room (Nat.le_of_ble_eq_true rfl)) dX1_printRow_31 ⟨hc25, hc26⟩) hR hS hA (fun r21 M22 H locs h hR hS => ?_)
      obtain ⟨v27, rfl, h⟩ := h
      refine lv_pop hx hb dX1_printRow_34 rfl ?_
      refine lv_aload_n hx hb dX1_printRow_35 rfl (lv_at hl 1 rfl) ?_
      refine lv_iload_n hx hb dX1_printRow_36 rfl (lv_at hl 2 rfl) ?_
      refine lv_iload hx hb dX1_printRow_37 (lv_at hl 0 rfl) ?_
      refine lv_aload_n hx hb dX1_printRow_39 rfl (lv_at hl 4 rfl) ?_
      obtain ⟨mc28, ms29, hc33, hc34, h⟩ := h
      refine k_callv (va_runS (As := [.ref p0, .int p1, .int (p2 / (2 : Int32)), .ref p3]) (rest := []) ⟨hx, hb, hml, hown, hts⟩ (c_X1_printRow_v2 l G mc28 ms29 _ _ _ p0 p1 (p2 / (2 : Int32)) p3 h) (va_cwS 4 hts gX1_printRow_X1_printRow rfl rfl rfl (by decide +kernel) ⟨Nat.le_of_ble_eq_true rfl, Nat.le_of_ble_eq_true rfl⟩) (k_preS hR hS hA hE) rfl rfl hl.1 rfl (lv_room (Nat.le_of_ble_eq_true rfl)) dX1_printRow_40 ⟨hc33, hc34⟩) hR hS hA (fun M31 H locs h hR hS => ?_)
      refine lv_aload_n hx hb dX1_printRow_43 rfl (lv_at hl 4 rfl) ?_
      refine lv_bipush (v := (44 : Int32)) hx hb dX1_printRow_44 (by decide) ?_
      obtain ⟨fs40, hm39, h⟩ := h
      obtain ⟨mc35, ms36, hc41, hc42, h⟩ := h
      refine k_callq (va_runV (As := [.int (44 : Int32)]) (rest := []) ⟨hx, hb, hml, hown, hts⟩ (c_J4_append_cf468 l G mc35 ms36 _ _ _ p3 (44 : Int32) h) (cwV 1 hts gX1_printRow_J4_append_cf468 rfl rfl rfl (by decide +kernel) ⟨Nat.le_of_ble_eq_true rfl, Nat.le_of_ble_eq_true rfl⟩) (k_preV (q := (RJ4, TJ4, 4)) hm39 rfl hR hS hA hE) rfl rfl hl.1 rfl (lv_room (Nat.le_of_ble_eq_true rfl)) dX1_printRow_46 ⟨hc41, hc42⟩) hR hS hA (fun r37 M38 H locs h hR hS => ?_)
      obtain ⟨v43, rfl, h⟩ := h
      refine lv_pop hx hb dX1_printRow_49 rfl ?_
      refine lv_aload_n hx hb dX1_printRow_50 rfl (lv_at hl 1 rfl) ?_
      refine lv_iload_n hx hb dX1_printRow_51 rfl (lv_at hl 2 rfl) ?_
      refine lv_iload hx hb dX1_printRow_52 (lv_at hl 0 rfl) ?_
      refine lv_iadd hx hb dX1_printRow_54 ?_
      refine lv_iload hx hb dX1_printRow_55 (lv_at hl 0 rfl) ?_
      refine lv_aload_n hx hb dX1_printRow_57 rfl (lv_at hl 4 rfl) ?_
      obtain ⟨mc44, ms45, hc49, hc50, h⟩ := h
      refine k_callv (va_runS (As := [.ref p0, .int (p1 + (p2 / (2 : Int32))), .int (p2 / (2 : Int32)), .ref p3]) (rest := []) ⟨hx, hb, hml, hown, hts⟩ (c_X1_printRow_v2 l G mc44 ms45 _ _ _ p0 (p1 + (p2 / (2 : Int32))) (p2 / (2 : Int32)) p3 h) (va_cwS 4 hts gX1_printRow_X1_printRow rfl rfl rfl (by decide +kernel) ⟨Nat.le_of_ble_eq_true rfl, Nat.le_of_ble_eq_true rfl⟩) (k_preS hR hS hA hE) rfl rfl hl.1 rfl (lv_room (Nat.le_of_ble_eq_true rfl)) dX1_printRow_58 ⟨hc49, hc50⟩) hR hS hA (fun M47 H locs h hR hS => ?_)
      refine lv_aload_n hx hb dX1_printRow_61 rfl (lv_at hl 4 rfl) ?_
      refine lv_bipush (v := (41 : Int32)) hx hb dX1_printRow_62 (by decide) ?_
      obtain ⟨fs56, hm55, h⟩ := h
      obtain ⟨mc51, ms52, hc57, hc58, h⟩ := h
      refine k_callq (va_runV (As := [.int (41 : Int32)]) (rest := []) ⟨hx, hb, hml, hown, hts⟩ (c_J4_append_cf468 l G mc51 ms52 _ _ _ p3 (41 : Int32) h) (cwV 1 hts gX1_printRow_J4_append_cf468 rfl rfl rfl (by decide +kernel) ⟨Nat.le_of_ble_eq_true rfl, Nat.le_of_ble_eq_true rfl⟩) (k_preV (q := (RJ4, TJ4, 4)) hm55 rfl hR hS hA hE) rfl rfl hl.1 rfl (lv_room (Nat.le_of_ble_eq_true rfl)) dX1_printRow_64 ⟨hc57, hc58⟩) hR hS hA (fun r53 M54 H locs h hR hS => ?_)
      obtain ⟨v59, rfl, h⟩ := h
      refine lv_pop hx hb dX1_printRow_67 rfl ?_
      obtain ⟨hwc, hws, h⟩ := h
      refine W.widen (k := mc) (n := ms) hwc hws ?_
      exact k_retv hx hb hr hlocks hR hS h dX1_printRow_68
    · replace h := hb2 hc
      exact b14 _ _ _ _ _ _ _ _ _ h (lv_sub hl [0, 1, 3] rfl) hR hS

def wp_X1_printRow_v4_b14 (G : k_G) (mc ms : Nat) (post : k_M → Prop) (x0 : Nat) (x1 : Int32) (x3 : Nat) (kc : Nat) (ks : Nat) (M : k_M) : Prop :=
  (∃ n1 f2, M x0 = some (kI G n1 f2) ∧ vp_in x1 n1 ∧
    (∃ fs10, M x3 = some (kO 0 fs10) ∧ (∃ mc5 ms6 : Nat, kc + mc5 ≤ mc ∧ ks + ms6 ≤ ms ∧ wp_J4_append_bf812 G mc5 ms6 (fun r7 M8 => ∃ v13, r7 = some v13 ∧
    (kc + mc5) ≤ mc ∧ (ks + ms6) ≤ ms ∧ post M8) x3 (f2 (x1).toNatClampNeg) M)))
def wp_X1_printRow_v4 (G : k_G) (mc ms : Nat) (post : k_M → Prop) (p0 : Nat) (p1 : Int32) (p2 : Int32) (p3 : Nat) (M0 : k_M) : Prop :=
  ((p2 ≤ (1 : Int32) →
  wp_X1_printRow_v4_b14 G mc ms post p0 p1 p3 0 0 M0) ∧
  (¬ p2 ≤ (1 : Int32) →
  (0 ≤ mc ∧ 0 ≤ ms ∧ wp_X1_isLeaf G (fun r14 M15 =>
    ((r14 = 0 →
    (∃ fs24, M15 p3 = some (kO 0 fs24) ∧ (∃ mc19 ms20 : Nat, 0 + mc19 ≤ mc ∧ 0 + ms20 ≤ ms ∧ wp_J4_append_cf468 G mc19 ms20 (fun r21 M22 => ∃ v27, r21 = some v27 ∧
      (∃ mc28 ms29 : Nat, (0 + mc19) + mc28 ≤ mc ∧ (0 + ms20) + ms29 ≤ ms ∧ wp_X1_printRow_v3 G mc28 ms29 (fun M31 =>
      (∃ fs40, M31 p3 = some (kO 0 fs40) ∧ (∃ mc35 ms36 : Nat, ((0 + mc19) + mc28) + mc35 ≤ mc ∧ ((0 + ms20) + ms29) + ms36 ≤ ms ∧ wp_J4_append_cf468 G mc35 ms36 (fun r37 M38 => ∃ v43, r37 = some v43 ∧
      (∃ mc44 ms45 : Nat, (((0 + mc19) + mc28) + mc35) + mc44 ≤ mc ∧ (((0 + ms20) + ms29) + ms36) + ms45 ≤ ms ∧ wp_X1_printRow_v3 G mc44 ms45 (fun M47 =>
      (∃ fs56, M47 p3 = some (kO 0 fs56) ∧ (∃ mc51 ms52 : Nat, ((((0 + mc19) + mc28) + mc35) + mc44) + mc51 ≤ mc ∧ ((((0 + ms20) + ms29) + ms36) + ms45) + ms52 ≤ ms ∧ wp_J4_append_cf468 G mc51 ms52 (fun r53 M54 => ∃ v59, r53 = some v59 ∧
      (((((0 + mc19) + mc28) + mc35) + mc44) + mc51) ≤ mc ∧ (((((0 + ms20) + ms29) + ms36) + ms45) + ms52) ≤ ms ∧ post M54) p3 (41 : Int32) M47))) p0 (p1 + (p2 / (2 : Int32))) (p2 / (2 : Int32)) p3 M38)) p3 (44 : Int32) M31))) p0 p1 (p2 / (2 : Int32)) p3 M22)) p3 (40 : Int32) M15))) ∧
    (¬ r14 = 0 →
    wp_X1_printRow_v4_b14 G mc ms post p0 p1 p3 0 0 M15))) p0 p1 p2 M0)))
set_option maxHeartbeats 4000000 in
set_option maxRecDepth 100000 in
theorem c_X1_printRow_v4 (l : Launch) (G : k_G) (mc ms : Nat) (M0 : k_M) (sz : Nat) (post : k_M → Prop) (p0 : Nat) (p1 : Int32) (p2 : Int32) (p3 : Nat) (h : wp_X1_printRow_v4 G mc ms post p0 p1 p2 p3 M0) : Met l yX1_printRow wsX1_printRow ({ frames := 10, cells := mc, slots := ms, locals := 226 }) (va_Pc [.ref p0, .int p1, .int p2, .ref p3] (kPre G M0 sz)) (va_Qv post (kB G M0 sz) (kA M0 sz)) mc ms (kA M0 sz) := by
  refine Met.ofW (cc := cX1_printRow) (maxL := 5) (ret := none) (by decide) rfl ?_
  intro p e s m args below meth c s₁ B hml hv
  obtain ⟨rfl, hsz, hR, hE⟩ := hv
  have hx := B.exec
  have hb := B.bytes
  have hr := B.returns
  have hts := atoms_spec (ws := wsX1_printRow) B.pre
  have hown : s.vm.findClass RX1 = some m.cls := findClass_of_methodNamed B.named
  have hlocks := B.notSynchronized
  subst hsz
  have hK := hE.1
  have hA : ∀ q, s.heap.size ≤ q → kA M0 s.heap.size q := kA.new
  have hS : va_S (kA M0 s.heap.size) s.heap s.heap [] := va_S.rf
  have b14 : ∀ (x0 : Nat) (x1 : Int32) (x3 : Nat) (kc : Nat) (ks : Nat) (M : k_M) (H : Heap) (locs : List Loc) (ls : Array Slot), wp_X1_printRow_v4_b14 G mc ms post x0 x1 x3 kc ks M → lv_has ls 5 [(0, .ref x0), (1, .int x1), (3, .ref x3)] → kR G M (kA M0 s.heap.size) H → va_S (kA M0 s.heap.size) s.heap H locs → W p l e (headSpec wsX1_printRow ({ frames := 10, cells := mc, slots := ms, locals := 226 })).room s m ([.ref p0, .int p1, .int p2, .ref p3] : List Value).toArray below meth c H locs kc ks (MQ below (va_Qv post (kB G M0 s.heap.size) (kA M0 s.heap.size)) ([.ref p0, .int p1, .int p2, .ref p3] : List Value).toArray s mc ms (kA M0 s.heap.size)) (F0 m 14 ls []) := by
    intro x0 x1 x3 kc ks M H locs ls h hl hR hS
    refine lv_aload_n hx hb dX1_printRow_14 rfl (lv_at hl 2 rfl) ?_
    refine lv_aload_n hx hb dX1_printRow_15 rfl (lv_at hl 0 rfl) ?_
    refine lv_iload_n hx hb dX1_printRow_16 rfl (lv_at hl 1 rfl) ?_
    obtain ⟨n1, f2, hm3, hv4, h⟩ := h
    refine k_iald hx hb hK hR hm3 hv4 dX1_printRow_17 ?_
    obtain ⟨fs10, hm9, h⟩ := h
    obtain ⟨mc5, ms6, hc11, hc12, h⟩ := h
    refine k_callq (va_runV (As := [.int (f2 (x1).toNatClampNeg)]) (rest := []) ⟨hx, hb, hml, hown, hts⟩ (c_J4_append_bf812 l G mc5 ms6 _ _ _ x3 (f2 (x1).toNatClampNeg) h) (cwV 1 hts gX1_printRow_J4_append_bf812 rfl rfl rfl (by decide +kernel) ⟨Nat.le_of_ble_eq_true rfl, Nat.le_of_ble_eq_true rfl⟩) (k_preV (q := (RJ4, TJ4, 4)) hm9 rfl hR hS hA hE) rfl rfl hl.1 rfl (lv_room (Nat.le_of_ble_eq_true rfl)) dX1_printRow_18 ⟨hc11, hc12⟩) hR hS hA (fun r7 M8 H locs h hR hS => ?_)
    obtain ⟨v13, rfl, h⟩ := h
    refine lv_pop hx hb dX1_printRow_21 rfl ?_
    obtain ⟨hwc, hws, h⟩ := h
    refine W.widen (k := mc) (n := ms) hwc hws ?_
    exact k_retv hx hb hr hlocks hR hS h dX1_printRow_22
  have hl := lv_entry ([.ref p0, .int p1, .int p2, .ref p3]) (n := 5) (Nat.le_of_ble_eq_true rfl)
  rw [lg_entry_eq]
  generalize (lg_sl ([.ref p0, .int p1, .int p2, .ref p3]) ++ List.replicate (5 - (lg_sl ([.ref p0, .int p1, .int p2, .ref p3])).length) Slot.unset).toArray = ls at hl ⊢
  have hl : lv_has ls 5 [(0, .ref p0), (1, .int p1), (2, .int p2), (3, .ref p3)] := hl
  have hR0 := hR
  refine lv_iload_n hx hb dX1_printRow_0 rfl (lv_at hl 2 rfl) ?_
  refine lv_iconst (v := (1 : Int32)) hx hb dX1_printRow_1 (by decide) ?_
  obtain ⟨ha, hb2⟩ := h
  refine lv_icmp_le (tgt := 14) hx hb dX1_printRow_2 (by decide) (fun hc => ?_) (fun hc => ?_)
  · replace h := ha hc
    exact b14 _ _ _ _ _ _ _ _ _ h (lv_sub hl [0, 1, 3] rfl) hR hS
  · replace h := hb2 hc
    refine lv_aload_n hx hb dX1_printRow_5 rfl (lv_at hl 0 rfl) ?_
    refine lv_iload_n hx hb dX1_printRow_6 rfl (lv_at hl 1 rfl) ?_
    refine lv_iload_n hx hb dX1_printRow_7 rfl (lv_at hl 2 rfl) ?_
    obtain ⟨hc17, hc18, h⟩ := h
    refine k_calli0 (va_runS (As := [.ref p0, .int p1, .int p2]) (rest := []) ⟨hx, hb, hml, hown, hts⟩ (c_X1_isLeaf l G _ _ _ p0 p1 p2 h) (va_cwS 3 hts gX1_printRow_X1_isLeaf rfl rfl rfl (by decide +kernel) ⟨Nat.le_of_ble_eq_true rfl, Nat.le_of_ble_eq_true rfl⟩) (k_preS hR hS hA hE) rfl rfl hl.1 rfl (lv_room (Nat.le_of_ble_eq_true rfl)) dX1_printRow_8 ⟨hc17, hc18⟩) hR hS hA (fun r14 M15 H locs h hR hS => ?_)
    obtain ⟨ha, hb2⟩ := h
    refine lv_if_eq (tgt := 23) hx hb dX1_printRow_11 (by decide) (fun hc => ?_) (fun hc => ?_)
    · replace h := ha hc
      refine lv_iload_n hx hb dX1_printRow_23 rfl (lv_at hl 2 rfl) ?_
      refine lv_iconst (v := (2 : Int32)) hx hb dX1_printRow_24 (by decide) ?_
      refine lv_idiv hx hb dX1_printRow_25 (by decide) ?_
      refine lv_istore (lv' := [(4, .int (p2 / (2 : Int32))), (0, .ref p0), (1, .int p1), (2, .int p2), (3, .ref p3)]) hx hb dX1_printRow_26 hl (by decide) rfl (fun ls hl => ?_)
      refine lv_aload_n hx hb dX1_printRow_28 rfl (lv_at hl 4 rfl) ?_
      refine lv_bipush (v := (40 : Int32)) hx hb dX1_printRow_29 (by decide) ?_
      obtain ⟨fs24, hm23, h⟩ := h
      obtain ⟨mc19, ms20, hc25, hc26, h⟩ := h
      refine k_callq (va_runV (As := [.int (40 : Int32)]) (rest := []) ⟨hx, hb, hml, hown, hts⟩ (c_J4_append_cf468 l G mc19 ms20 _ _ _ p3 (40 : Int32) h) (cwV 1 hts gX1_printRow_J4_append_cf468 rfl rfl rfl (by decide +kernel) ⟨Nat.le_of_ble_eq_true rfl, Nat.le_of_ble_eq_true rfl⟩) (k_preV (q := (RJ4, TJ4, 4)) hm23 rfl hR hS hA hE) rfl rfl hl.1 rfl (lv_room (Nat.le_of_ble_eq_true rfl)) dX1_printRow_31 ⟨hc25, hc26⟩) hR hS hA (fun r21 M22 H locs h hR hS => ?_)
      obtain ⟨v27, rfl, h⟩ := h
      refine lv_pop hx hb dX1_printRow_34 rfl ?_
      refine lv_aload_n hx hb dX1_printRow_35 rfl (lv_at hl 1 rfl) ?_
      refine lv_iload_n hx hb dX1_printRow_36 rfl (lv_at hl 2 rfl) ?_
      refine lv_iload hx hb dX1_printRow_37 (lv_at hl 0 rfl) ?_
      refine lv_aload_n hx hb dX1_printRow_39 rfl (lv_at hl 4 rfl) ?_
      obtain ⟨mc28, ms29, hc33, hc34, h⟩ := h
      refine k_callv (va_runS (As := [.ref p0, .int p1, .int (p2 / (2 : Int32)), .ref p3]) (rest := []) ⟨hx, hb, hml, hown, hts⟩ (c_X1_printRow_v3 l G mc28 ms29 _ _ _ p0 p1 (p2 / (2 : Int32)) p3 h) (va_cwS 4 hts gX1_printRow_X1_printRow rfl rfl rfl (by decide +kernel) ⟨Nat.le_of_ble_eq_true rfl, Nat.le_of_ble_eq_true rfl⟩) (k_preS hR hS hA hE) rfl rfl hl.1 rfl (lv_room (Nat.le_of_ble_eq_true rfl)) dX1_printRow_40 ⟨hc33, hc34⟩) hR hS hA (fun M31 H locs h hR hS => ?_)
      refine lv_aload_n hx hb dX1_printRow_43 rfl (lv_at hl 4 rfl) ?_
      refine lv_bipush (v := (44 : Int32)) hx hb dX1_printRow_44 (by decide) ?_
      obtain ⟨fs40, hm39, h⟩ := h
      obtain ⟨mc35, ms36, hc41, hc42, h⟩ := h
      refine k_callq (va_runV (As := [.int (44 : Int32)]) (rest := []) ⟨hx, hb, hml, hown, hts⟩ (c_J4_append_cf468 l G mc35 ms36 _ _ _ p3 (44 : Int32) h) (cwV 1 hts gX1_printRow_J4_append_cf468 rfl rfl rfl (by decide +kernel) ⟨Nat.le_of_ble_eq_true rfl, Nat.le_of_ble_eq_true rfl⟩) (k_preV (q := (RJ4, TJ4, 4)) hm39 rfl hR hS hA hE) rfl rfl hl.1 rfl (lv_room (Nat.le_of_ble_eq_true rfl)) dX1_printRow_46 ⟨hc41, hc42⟩) hR hS hA (fun r37 M38 H locs h hR hS => ?_)
      obtain ⟨v43, rfl, h⟩ := h
      refine lv_pop hx hb dX1_printRow_49 rfl ?_
      refine lv_aload_n hx hb dX1_printRow_50 rfl (lv_at hl 1 rfl) ?_
      refine lv_iload_n hx hb dX1_printRow_51 rfl (lv_at hl 2 rfl) ?_
      refine lv_iload hx hb dX1_printRow_52 (lv_at hl 0 rfl) ?_
      refine lv_iadd hx hb dX1_printRow_54 ?_
      refine lv_iload hx hb dX1_printRow_55 (lv_at hl 0 rfl) ?_
      refine lv_aload_n hx hb dX1_printRow_57 rfl (lv_at hl 4 rfl) ?_
      obtain ⟨mc44, ms45, hc49, hc50, h⟩ := h
      refine k_callv (va_runS (As := [.ref p0, .int (p1 + (p2 / (2 : Int32))), .int (p2 / (2 : Int32)), .ref p3]) (rest := []) ⟨hx, hb, hml, hown, hts⟩ (c_X1_printRow_v3 l G mc44 ms45 _ _ _ p0 (p1 + (p2 / (2 : Int32))) (p2 / (2 : Int32)) p3 h) (va_cwS 4 hts gX1_printRow_X1_printRow rfl rfl rfl (by decide +kernel) ⟨Nat.le_of_ble_eq_true rfl, Nat.le_of_ble_eq_true rfl⟩) (k_preS hR hS hA hE) rfl rfl hl.1 rfl (lv_room (Nat.le_of_ble_eq_true rfl)) dX1_printRow_58 ⟨hc49, hc50⟩) hR hS hA (fun M47 H locs h hR hS => ?_)
      refine lv_aload_n hx hb dX1_printRow_61 rfl (lv_at hl 4 rfl) ?_
      refine lv_bipush (v := (41 : Int32)) hx hb dX1_printRow_62 (by decide) ?_
      obtain ⟨fs56, hm55, h⟩ := h
      obtain ⟨mc51, ms52, hc57, hc58, h⟩ := h
      refine k_callq (va_runV (As := [.int (41 : Int32)]) (rest := []) ⟨hx, hb, hml, hown, hts⟩ (c_J4_append_cf468 l G mc51 ms52 _ _ _ p3 (41 : Int32) h) (cwV 1 hts gX1_printRow_J4_append_cf468 rfl rfl rfl (by decide +kernel) ⟨Nat.le_of_ble_eq_true rfl, Nat.le_of_ble_eq_true rfl⟩) (k_preV (q := (RJ4, TJ4, 4)) hm55 rfl hR hS hA hE) rfl rfl hl.1 rfl (lv_room (Nat.le_of_ble_eq_true rfl)) dX1_printRow_64 ⟨hc57, hc58⟩) hR hS hA (fun r53 M54 H locs h hR hS => ?_)
      obtain ⟨v59, rfl, h⟩ := h
      refine lv_pop hx hb dX1_printRow_67 rfl ?_
      obtain ⟨hwc, hws, h⟩ := h
      refine W.widen (k := mc) (n := ms) hwc hws ?_
      exact k_retv hx hb hr hlocks hR hS h dX1_printRow_68
    · replace h := hb2 hc
      exact b14 _ _ _ _ _ _ _ _ _ h (lv_sub hl [0, 1, 3] rfl) hR hS

def wp_X1_printRow_v5_b14 (G : k_G) (mc ms : Nat) (post : k_M → Prop) (x0 : Nat) (x1 : Int32) (x3 : Nat) (kc : Nat) (ks : Nat) (M : k_M) : Prop :=
  (∃ n1 f2, M x0 = some (kI G n1 f2) ∧ vp_in x1 n1 ∧
    (∃ fs10, M x3 = some (kO 0 fs10) ∧ (∃ mc5 ms6 : Nat, kc + mc5 ≤ mc ∧ ks + ms6 ≤ ms ∧ wp_J4_append_bf812 G mc5 ms6 (fun r7 M8 => ∃ v13, r7 = some v13 ∧
    (kc + mc5) ≤ mc ∧ (ks + ms6) ≤ ms ∧ post M8) x3 (f2 (x1).toNatClampNeg) M)))
def wp_X1_printRow_v5 (G : k_G) (mc ms : Nat) (post : k_M → Prop) (p0 : Nat) (p1 : Int32) (p2 : Int32) (p3 : Nat) (M0 : k_M) : Prop :=
  ((p2 ≤ (1 : Int32) →
  wp_X1_printRow_v5_b14 G mc ms post p0 p1 p3 0 0 M0) ∧
  (¬ p2 ≤ (1 : Int32) →
  (0 ≤ mc ∧ 0 ≤ ms ∧ wp_X1_isLeaf G (fun r14 M15 =>
    ((r14 = 0 →
    (∃ fs24, M15 p3 = some (kO 0 fs24) ∧ (∃ mc19 ms20 : Nat, 0 + mc19 ≤ mc ∧ 0 + ms20 ≤ ms ∧ wp_J4_append_cf468 G mc19 ms20 (fun r21 M22 => ∃ v27, r21 = some v27 ∧
      (∃ mc28 ms29 : Nat, (0 + mc19) + mc28 ≤ mc ∧ (0 + ms20) + ms29 ≤ ms ∧ wp_X1_printRow_v4 G mc28 ms29 (fun M31 =>
      (∃ fs40, M31 p3 = some (kO 0 fs40) ∧ (∃ mc35 ms36 : Nat, ((0 + mc19) + mc28) + mc35 ≤ mc ∧ ((0 + ms20) + ms29) + ms36 ≤ ms ∧ wp_J4_append_cf468 G mc35 ms36 (fun r37 M38 => ∃ v43, r37 = some v43 ∧
      (∃ mc44 ms45 : Nat, (((0 + mc19) + mc28) + mc35) + mc44 ≤ mc ∧ (((0 + ms20) + ms29) + ms36) + ms45 ≤ ms ∧ wp_X1_printRow_v4 G mc44 ms45 (fun M47 =>
      (∃ fs56, M47 p3 = some (kO 0 fs56) ∧ (∃ mc51 ms52 : Nat, ((((0 + mc19) + mc28) + mc35) + mc44) + mc51 ≤ mc ∧ ((((0 + ms20) + ms29) + ms36) + ms45) + ms52 ≤ ms ∧ wp_J4_append_cf468 G mc51 ms52 (fun r53 M54 => ∃ v59, r53 = some v59 ∧
      (((((0 + mc19) + mc28) + mc35) + mc44) + mc51) ≤ mc ∧ (((((0 + ms20) + ms29) + ms36) + ms45) + ms52) ≤ ms ∧ post M54) p3 (41 : Int32) M47))) p0 (p1 + (p2 / (2 : Int32))) (p2 / (2 : Int32)) p3 M38)) p3 (44 : Int32) M31))) p0 p1 (p2 / (2 : Int32)) p3 M22)) p3 (40 : Int32) M15))) ∧
    (¬ r14 = 0 →
    wp_X1_printRow_v5_b14 G mc ms post p0 p1 p3 0 0 M15))) p0 p1 p2 M0)))
set_option maxHeartbeats 4000000 in
set_option maxRecDepth 100000 in
theorem c_X1_printRow_v5 (l : Launch) (G : k_G) (mc ms : Nat) (M0 : k_M) (sz : Nat) (post : k_M → Prop) (p0 : Nat) (p1 : Int32) (p2 : Int32) (p3 : Nat) (h : wp_X1_printRow_v5 G mc ms post p0 p1 p2 p3 M0) : Met l yX1_printRow wsX1_printRow ({ frames := 11, cells := mc, slots := ms, locals := 250 }) (va_Pc [.ref p0, .int p1, .int p2, .ref p3] (kPre G M0 sz)) (va_Qv post (kB G M0 sz) (kA M0 sz)) mc ms (kA M0 sz) := by
  refine Met.ofW (cc := cX1_printRow) (maxL := 5) (ret := none) (by decide) rfl ?_
  intro p e s m args below meth c s₁ B hml hv
  obtain ⟨rfl, hsz, hR, hE⟩ := hv
  have hx := B.exec
  have hb := B.bytes
  have hr := B.returns
  have hts := atoms_spec (ws := wsX1_printRow) B.pre
  have hown : s.vm.findClass RX1 = some m.cls := findClass_of_methodNamed B.named
  have hlocks := B.notSynchronized
  subst hsz
  have hK := hE.1
  have hA : ∀ q, s.heap.size ≤ q → kA M0 s.heap.size q := kA.new
  have hS : va_S (kA M0 s.heap.size) s.heap s.heap [] := va_S.rf
  have b14 : ∀ (x0 : Nat) (x1 : Int32) (x3 : Nat) (kc : Nat) (ks : Nat) (M : k_M) (H : Heap) (locs : List Loc) (ls : Array Slot), wp_X1_printRow_v5_b14 G mc ms post x0 x1 x3 kc ks M → lv_has ls 5 [(0, .ref x0), (1, .int x1), (3, .ref x3)] → kR G M (kA M0 s.heap.size) H → va_S (kA M0 s.heap.size) s.heap H locs → W p l e (headSpec wsX1_printRow ({ frames := 11, cells := mc, slots := ms, locals := 250 })).room s m ([.ref p0, .int p1, .int p2, .ref p3] : List Value).toArray below meth c H locs kc ks (MQ below (va_Qv post (kB G M0 s.heap.size) (kA M0 s.heap.size)) ([.ref p0, .int p1, .int p2, .ref p3] : List Value).toArray s mc ms (kA M0 s.heap.size)) (F0 m 14 ls []) := by
    intro x0 x1 x3 kc ks M H locs ls h hl hR hS
    refine lv_aload_n hx hb dX1_printRow_14 rfl (lv_at hl 2 rfl) ?_
    refine lv_aload_n hx hb dX1_printRow_15 rfl (lv_at hl 0 rfl) ?_
    refine lv_iload_n hx hb dX1_printRow_16 rfl (lv_at hl 1 rfl) ?_
    obtain ⟨n1, f2, hm3, hv4, h⟩ := h
    refine k_iald hx hb hK hR hm3 hv4 dX1_printRow_17 ?_
    obtain ⟨fs10, hm9, h⟩ := h
    obtain ⟨mc5, ms6, hc11, hc12, h⟩ := h
    refine k_callq (va_runV (As := [.int (f2 (x1).toNatClampNeg)]) (rest := []) ⟨hx, hb, hml, hown, hts⟩ (c_J4_append_bf812 l G mc5 ms6 _ _ _ x3 (f2 (x1).toNatClampNeg) h) (cwV 1 hts gX1_printRow_J4_append_bf812 rfl rfl rfl (by decide +kernel) ⟨Nat.le_of_ble_eq_true rfl, Nat.le_of_ble_eq_true rfl⟩) (k_preV (q := (RJ4, TJ4, 4)) hm9 rfl hR hS hA hE) rfl rfl hl.1 rfl (lv_room (Nat.le_of_ble_eq_true rfl)) dX1_printRow_18 ⟨hc11, hc12⟩) hR hS hA (fun r7 M8 H locs h hR hS => ?_)
    obtain ⟨v13, rfl, h⟩ := h
    refine lv_pop hx hb dX1_printRow_21 rfl ?_
    obtain ⟨hwc, hws, h⟩ := h
    refine W.widen (k := mc) (n := ms) hwc hws ?_
    exact k_retv hx hb hr hlocks hR hS h dX1_printRow_22
  have hl := lv_entry ([.ref p0, .int p1, .int p2, .ref p3]) (n := 5) (Nat.le_of_ble_eq_true rfl)
  rw [lg_entry_eq]
  generalize (lg_sl ([.ref p0, .int p1, .int p2, .ref p3]) ++ List.replicate (5 - (lg_sl ([.ref p0, .int p1, .int p2, .ref p3])).length) Slot.unset).toArray = ls at hl ⊢
  have hl : lv_has ls 5 [(0, .ref p0), (1, .int p1), (2, .int p2), (3, .ref p3)] := hl
  have hR0 := hR
  refine lv_iload_n hx hb dX1_printRow_0 rfl (lv_at hl 2 rfl) ?_
  refine lv_iconst (v := (1 : Int32)) hx hb dX1_printRow_1 (by decide) ?_
  obtain ⟨ha, hb2⟩ := h
  refine lv_icmp_le (tgt := 14) hx hb dX1_printRow_2 (by decide) (fun hc => ?_) (fun hc => ?_)
  · replace h := ha hc
    exact b14 _ _ _ _ _ _ _ _ _ h (lv_sub hl [0, 1, 3] rfl) hR hS
  · replace h := hb2 hc
    refine lv_aload_n hx hb dX1_printRow_5 rfl (lv_at hl 0 rfl) ?_
    refine lv_iload_n hx hb dX1_printRow_6 rfl (lv_at hl 1 rfl) ?_
    refine lv_iload_n hx hb dX1_printRow_7 rfl (lv_at hl 2 rfl) ?_
    obtain ⟨hc17, hc18, h⟩ := h
    refine k_calli0 (va_runS (As := [.ref p0, .int p1, .int p2]) (rest := []) ⟨hx, hb, hml, hown, hts⟩ (c_X1_isLeaf l G _ _ _ p0 p1 p2 h) (va_cwS 3 hts gX1_printRow_X1_isLeaf rfl rfl rfl (by decide +kernel) ⟨Nat.le_of_ble_eq_true rfl, Nat.le_of_ble_eq_true rfl⟩) (k_preS hR hS hA hE) rfl rfl hl.1 rfl (lv_room (Nat.le_of_ble_eq_true rfl)) dX1_printRow_8 ⟨hc17, hc18⟩) hR hS hA (fun r14 M15 H locs h hR hS => ?_)
    obtain ⟨ha, hb2⟩ := h
    refine lv_if_eq (tgt := 23) hx hb dX1_printRow_11 (by decide) (fun hc => ?_) (fun hc => ?_)
    · replace h := ha hc
      refine lv_iload_n hx hb dX1_printRow_23 rfl (lv_at hl 2 rfl) ?_
      refine lv_iconst (v := (2 : Int32)) hx hb dX1_printRow_24 (by decide) ?_
      refine lv_idiv hx hb dX1_printRow_25 (by decide) ?_
      refine lv_istore (lv' := [(4, .int (p2 / (2 : Int32))), (0, .ref p0), (1, .int p1), (2, .int p2), (3, .ref p3)]) hx hb dX1_printRow_26 hl (by decide) rfl (fun ls hl => ?_)
      refine lv_aload_n hx hb dX1_printRow_28 rfl (lv_at hl 4 rfl) ?_
      refine lv_bipush (v := (40 : Int32)) hx hb dX1_printRow_29 (by decide) ?_
      obtain ⟨fs24, hm23, h⟩ := h
      obtain ⟨mc19, ms20, hc25, hc26, h⟩ := h
      refine k_callq (va_runV (As := [.int (40 : Int32)]) (rest := []) ⟨hx, hb, hml, hown, hts⟩ (c_J4_append_cf468 l G mc19 ms20 _ _ _ p3 (40 : Int32) h) (cwV 1 hts gX1_printRow_J4_append_cf468 rfl rfl rfl (by decide +kernel) ⟨Nat.le_of_ble_eq_true rfl, Nat.le_of_ble_eq_true rfl⟩) (k_preV (q := (RJ4, TJ4, 4)) hm23 rfl hR hS hA hE) rfl rfl hl.1 rfl (lv_room (Nat.le_of_ble_eq_true rfl)) dX1_printRow_31 ⟨hc25, hc26⟩) hR hS hA (fun r21 M22 H locs h hR hS => ?_)
      obtain ⟨v27, rfl, h⟩ := h
      refine lv_pop hx hb dX1_printRow_34 rfl ?_
      refine lv_aload_n hx hb dX1_printRow_35 rfl (lv_at hl 1 rfl) ?_
      refine lv_iload_n hx hb dX1_printRow_36 rfl (lv_at hl 2 rfl) ?_
      refine lv_iload hx hb dX1_printRow_37 (lv_at hl 0 rfl) ?_
      refine lv_aload_n hx hb dX1_printRow_39 rfl (lv_at hl 4 rfl) ?_
      obtain ⟨mc28, ms29, hc33, hc34, h⟩ := h
      refine k_callv (va_runS (As := [.ref p0, .int p1, .int (p2 / (2 : Int32)), .ref p3]) (rest := []) ⟨hx, hb, hml, hown, hts⟩ (c_X1_printRow_v4 l G mc28 ms29 _ _ _ p0 p1 (p2 / (2 : Int32)) p3 h) (va_cwS 4 hts gX1_printRow_X1_printRow rfl rfl rfl (by decide +kernel) ⟨Nat.le_of_ble_eq_true rfl, Nat.le_of_ble_eq_true rfl⟩) (k_preS hR hS hA hE) rfl rfl hl.1 rfl (lv_room (Nat.le_of_ble_eq_true rfl)) dX1_printRow_40 ⟨hc33, hc34⟩) hR hS hA (fun M31 H locs h hR hS => ?_)
      refine lv_aload_n hx hb dX1_printRow_43 rfl (lv_at hl 4 rfl) ?_
      refine lv_bipush (v := (44 : Int32)) hx hb dX1_printRow_44 (by decide) ?_
      obtain ⟨fs40, hm39, h⟩ := h
      obtain ⟨mc35, ms36, hc41, hc42, h⟩ := h
      refine k_callq (va_runV (As := [.int (44 : Int32)]) (rest := []) ⟨hx, hb, hml, hown, hts⟩ (c_J4_append_cf468 l G mc35 ms36 _ _ _ p3 (44 : Int32) h) (cwV 1 hts gX1_printRow_J4_append_cf468 rfl rfl rfl (by decide +kernel) ⟨Nat.le_of_ble_eq_true rfl, Nat.le_of_ble_eq_true rfl⟩) (k_preV (q := (RJ4, TJ4, 4)) hm39 rfl hR hS hA hE) rfl rfl hl.1 rfl (lv_room (Nat.le_of_ble_eq_true rfl)) dX1_printRow_46 ⟨hc41, hc42⟩) hR hS hA (fun r37 M38 H locs h hR hS => ?_)
      obtain ⟨v43, rfl, h⟩ := h
      refine lv_pop hx hb dX1_printRow_49 rfl ?_
      refine lv_aload_n hx hb dX1_printRow_50 rfl (lv_at hl 1 rfl) ?_
      refine lv_iload_n hx hb dX1_printRow_51 rfl (lv_at hl 2 rfl) ?_
      refine lv_iload hx hb dX1_printRow_52 (lv_at hl 0 rfl) ?_
      refine lv_iadd hx hb dX1_printRow_54 ?_
      refine lv_iload hx hb dX1_printRow_55 (lv_at hl 0 rfl) ?_
      refine lv_aload_n hx hb dX1_printRow_57 rfl (lv_at hl 4 rfl) ?_
      obtain ⟨mc44, ms45, hc49, hc50, h⟩ := h
      refine k_callv (va_runS (As := [.ref p0, .int (p1 + (p2 / (2 : Int32))), .int (p2 / (2 : Int32)), .ref p3]) (rest := []) ⟨hx, hb, hml, hown, hts⟩ (c_X1_printRow_v4 l G mc44 ms45 _ _ _ p0 (p1 + (p2 / (2 : Int32))) (p2 / (2 : Int32)) p3 h) (va_cwS 4 hts gX1_printRow_X1_printRow rfl rfl rfl (by decide +kernel) ⟨Nat.le_of_ble_eq_true rfl, Nat.le_of_ble_eq_true rfl⟩) (k_preS hR hS hA hE) rfl rfl hl.1 rfl (lv_room (Nat.le_of_ble_eq_true rfl)) dX1_printRow_58 ⟨hc49, hc50⟩) hR hS hA (fun M47 H locs h hR hS => ?_)
      refine lv_aload_n hx hb dX1_printRow_61 rfl (lv_at hl 4 rfl) ?_
      refine lv_bipush (v := (41 : Int32)) hx hb dX1_printRow_62 (by decide) ?_
      obtain ⟨fs56, hm55, h⟩ := h
      obtain ⟨mc51, ms52, hc57, hc58, h⟩ := h
      refine k_callq (va_runV (As := [.int (41 : Int32)]) (rest := []) ⟨hx, hb, hml, hown, hts⟩ (c_J4_append_cf468 l G mc51 ms52 _ _ _ p3 (41 : Int32) h) (cwV 1 hts gX1_printRow_J4_append_cf468 rfl rfl rfl (by decide +kernel) ⟨Nat.le_of_ble_eq_true rfl, Nat.le_of_ble_eq_true rfl⟩) (k_preV (q := (RJ4, TJ4, 4)) hm55 rfl hR hS hA hE) rfl rfl hl.1 rfl (lv_room (Nat.le_of_ble_eq_true rfl)) dX1_printRow_64 ⟨hc57, hc58⟩) hR hS hA (fun r53 M54 H locs h hR hS => ?_)
      obtain ⟨v59, rfl, h⟩ := h
      refine lv_pop hx hb dX1_printRow_67 rfl ?_
      obtain ⟨hwc, hws, h⟩ := h
      refine W.widen (k := mc) (n := ms) hwc hws ?_
      exact k_retv hx hb hr hlocks hR hS h dX1_printRow_68
    · replace h := hb2 hc
      exact b14 _ _ _ _ _ _ _ _ _ h (lv_sub hl [0, 1, 3] rfl) hR hS

def wp_X1_print (G : k_G) (mc ms : Nat) (post : k_M → Prop) (p0 : Nat) (p1 : Nat) (M0 : k_M) : Prop :=
  (∃ fs1 v2, M0 p0 = some (kO 2 fs1) ∧ fs1[0]? = some (.ref v2) ∧
  (∃ mc5 ms6 : Nat, 0 + mc5 ≤ mc ∧ 0 + ms6 ≤ ms ∧ wp_X1_printRow_v5 G mc5 ms6 (fun M8 =>
  (0 + mc5) ≤ mc ∧ (0 + ms6) ≤ ms ∧ post M8) v2 (0 : Int32) (16 : Int32) p1 M0))
theorem in_X1_print_X1 : ∀ w ∈ wsX10, w ∈ wsX1_print := by decide +kernel
set_option maxHeartbeats 4000000 in
set_option maxRecDepth 100000 in
theorem c_X1_print (l : Launch) (G : k_G) (mc ms : Nat) (M0 : k_M) (sz : Nat) (post : k_M → Prop) (p0 : Nat) (p1 : Nat) (h : wp_X1_print G mc ms post p0 p1 M0) : Met l yX1_print wsX1_print ({ frames := 12, cells := mc, slots := ms, locals := 274 }) (va_Pc [.ref p0, .ref p1] (kPre G M0 sz)) (va_Qv post (kB G M0 sz) (kA M0 sz)) mc ms (kA M0 sz) := by
  refine Met.ofW (cc := cX1_print) (maxL := 2) (ret := none) (by decide) rfl ?_
  intro p e s m args below meth c s₁ B hml hv
  obtain ⟨rfl, hsz, hR, hE⟩ := hv
  have hx := B.exec
  have hb := B.bytes
  have hr := B.returns
  have hts := atoms_spec (ws := wsX1_print) B.pre
  have hown : s.vm.findClass RX1 = some m.cls := findClass_of_methodNamed B.named
  have hlocks := B.notSynchronized
  subst hsz
  have hK := hE.1
  have hA : ∀ q, s.heap.size ≤ q → kA M0 s.heap.size q := kA.new
  have hS : va_S (kA M0 s.heap.size) s.heap s.heap [] := va_S.rf
  have hw1 := hts (.fieldLink RX1 9 "ForkedStamps$Stamp" "heights" "[I") (by decide +kernel)
  have hl := lv_entry ([.ref p0, .ref p1]) (n := 2) (Nat.le_of_ble_eq_true rfl)
  rw [lg_entry_eq]
  generalize (lg_sl ([.ref p0, .ref p1]) ++ List.replicate (2 - (lg_sl ([.ref p0, .ref p1])).length) Slot.unset).toArray = ls at hl ⊢
  have hl : lv_has ls 2 [(0, .ref p0), (1, .ref p1)] := hl
  have hR0 := hR
  refine lv_aload_n hx hb dX1_print_0 rfl (lv_at hl 0 rfl) ?_
  obtain ⟨fs1, v2, hm3, hv4, h⟩ := h
  refine k_get (ci := 2) (C := RX1) (T := TX1) (N := 3) hx hb hts in_X1_print_X1 hown hK hR hm3 rfl 0 (by decide) hw1 (fun _ h9 => h9) hv4 dX1_print_1 ?_
  refine lv_iconst (v := (0 : Int32)) hx hb dX1_print_4 (by decide) ?_
  refine lv_bipush (v := (16 : Int32)) hx hb dX1_print_5 (by decide) ?_
  refine lv_aload_n hx hb dX1_print_7 rfl (lv_at hl 1 rfl) ?_
  obtain ⟨mc5, ms6, hc10, hc11, h⟩ := h
  refine k_callv (va_runS (As := [.ref v2, .int (0 : Int32), .int (16 : Int32), .ref p1]) (rest := []) ⟨hx, hb, hml, hown, hts⟩ (c_X1_printRow_v5 l G mc5 ms6 _ _ _ v2 (0 : Int32) (16 : Int32) p1 h) (va_cwS 4 hts gX1_print_X1_printRow rfl rfl rfl (by decide +kernel) ⟨Nat.le_of_ble_eq_true rfl, Nat.le_of_ble_eq_true rfl⟩) (k_preS hR hS hA hE) rfl rfl hl.1 rfl (lv_room (Nat.le_of_ble_eq_true rfl)) dX1_print_8 ⟨hc10, hc11⟩) hR hS hA (fun M8 H locs h hR hS => ?_)
  obtain ⟨hwc, hws, h⟩ := h
  refine W.widen (k := mc) (n := ms) hwc hws ?_
  exact k_retv hx hb hr hlocks hR hS h dX1_print_11

def wp_X3_textOf (G : k_G) (mc ms : Nat) (post : Option Nat → k_M → Prop) (p0 : Nat) (p1 : Nat) (M0 : k_M) : Prop :=
  (∃ fs1 v2, M0 p0 = some (kO 4 fs1) ∧ fs1[7]? = some (.ref v2) ∧
  (∃ fs10, M0 v2 = some (kO 0 fs10) ∧ (∃ mc5 ms6 : Nat, 0 + mc5 ≤ mc ∧ 0 + ms6 ≤ ms ∧ wp_J4_setLength_d00df G mc5 ms6 (fun M8 =>
  (∃ fs13 v14, M8 p0 = some (kO 4 fs13) ∧ fs13[7]? = some (.ref v14) ∧
  (∃ fs22, M8 p1 = some (kO 2 fs22) ∧ (∃ mc17 ms18 : Nat, (0 + mc5) + mc17 ≤ mc ∧ (0 + ms6) + ms18 ≤ ms ∧ wp_X1_print G mc17 ms18 (fun M20 =>
  (∃ fs25 v26, M20 p0 = some (kO 4 fs25) ∧ fs25[7]? = some (.ref v26) ∧
  ((0 + mc5) + mc17) ≤ mc ∧ ((0 + ms6) + ms18) ≤ ms ∧ post (some v26) M20)) p1 v14 M8)))) v2 (0 : Int32) M0)))
theorem in_X3_textOf_X3 : ∀ w ∈ wsX30, w ∈ wsX3_textOf := by decide +kernel
set_option maxHeartbeats 4000000 in
set_option maxRecDepth 100000 in
theorem c_X3_textOf (l : Launch) (G : k_G) (mc ms : Nat) (M0 : k_M) (sz : Nat) (post : Option Nat → k_M → Prop) (p0 : Nat) (p1 : Nat) (h : wp_X3_textOf G mc ms post p0 p1 M0) : Met l yX3_textOf wsX3_textOf ({ frames := 13, cells := mc, slots := ms, locals := 295 }) (va_Pc [.ref p0, .ref p1] (kPre G M0 sz)) (va_Qq post (kB G M0 sz) (kA M0 sz)) mc ms (kA M0 sz) := by
  refine Met.ofW (cc := cX3_textOf) (maxL := 2) (ret := (some (.object "java/lang/StringBuilder"))) (by decide) rfl ?_
  intro p e s m args below meth c s₁ B hml hv
  obtain ⟨rfl, hsz, hR, hE⟩ := hv
  have hx := B.exec
  have hb := B.bytes
  have hr := B.returns
  have hts := atoms_spec (ws := wsX3_textOf) B.pre
  have hown : s.vm.findClass RX3 = some m.cls := findClass_of_methodNamed B.named
  have hlocks := B.notSynchronized
  subst hsz
  have hK := hE.1
  have hA : ∀ q, s.heap.size ≤ q → kA M0 s.heap.size q := kA.new
  have hS : va_S (kA M0 s.heap.size) s.heap s.heap [] := va_S.rf
  have hw1 := hts (.fieldLink RX3 44 "ForkedStamps" "text" "Ljava/lang/StringBuilder;") (by decide +kernel)
  have hl := lv_entry ([.ref p0, .ref p1]) (n := 2) (Nat.le_of_ble_eq_true rfl)
  rw [lg_entry_eq]
  generalize (lg_sl ([.ref p0, .ref p1]) ++ List.replicate (2 - (lg_sl ([.ref p0, .ref p1])).length) Slot.unset).toArray = ls at hl ⊢
  have hl : lv_has ls 2 [(0, .ref p0), (1, .ref p1)] := hl
  have hR0 := hR
  refine lv_aload_n hx hb dX3_textOf_0 rfl (lv_at hl 0 rfl) ?_
  obtain ⟨fs1, v2, hm3, hv4, h⟩ := h
  refine k_get (ci := 4) (C := RX3) (T := TX3) (N := 8) hx hb hts in_X3_textOf_X3 hown hK hR hm3 rfl 7 (by decide) hw1 (fun _ h9 => h9) hv4 dX3_textOf_1 ?_
  refine lv_iconst (v := (0 : Int32)) hx hb dX3_textOf_4 (by decide) ?_
  obtain ⟨fs10, hm9, h⟩ := h
  obtain ⟨mc5, ms6, hc11, hc12, h⟩ := h
  refine k_callv (va_runV (As := [.int (0 : Int32)]) (rest := []) ⟨hx, hb, hml, hown, hts⟩ (c_J4_setLength_d00df l G mc5 ms6 _ _ _ v2 (0 : Int32) h) (cwV 1 hts gX3_textOf_J4_setLength_d00df rfl rfl rfl (by decide +kernel) ⟨Nat.le_of_ble_eq_true rfl, Nat.le_of_ble_eq_true rfl⟩) (k_preV (q := (RJ4, TJ4, 4)) hm9 rfl hR hS hA hE) rfl rfl hl.1 rfl (lv_room (Nat.le_of_ble_eq_true rfl)) dX3_textOf_5 ⟨hc11, hc12⟩) hR hS hA (fun M8 H locs h hR hS => ?_)
  refine lv_aload_n hx hb dX3_textOf_8 rfl (lv_at hl 1 rfl) ?_
  refine lv_aload_n hx hb dX3_textOf_9 rfl (lv_at hl 0 rfl) ?_
  obtain ⟨fs13, v14, hm15, hv16, h⟩ := h
  refine k_get (ci := 4) (C := RX3) (T := TX3) (N := 8) hx hb hts in_X3_textOf_X3 hown hK hR hm15 rfl 7 (by decide) hw1 (fun _ h9 => h9) hv16 dX3_textOf_10 ?_
  obtain ⟨fs22, hm21, h⟩ := h
  obtain ⟨mc17, ms18, hc23, hc24, h⟩ := h
  refine k_callv (va_runV (As := [.ref v14]) (rest := []) ⟨hx, hb, hml, hown, hts⟩ (c_X1_print l G mc17 ms18 _ _ _ p1 v14 h) (cwV 1 hts gX3_textOf_X1_print rfl rfl rfl (by decide +kernel) ⟨Nat.le_of_ble_eq_true rfl, Nat.le_of_ble_eq_true rfl⟩) (k_preV (q := (RX1, TX1, 3)) hm21 rfl hR hS hA hE) rfl rfl hl.1 rfl (lv_room (Nat.le_of_ble_eq_true rfl)) dX3_textOf_13 ⟨hc23, hc24⟩) hR hS hA (fun M20 H locs h hR hS => ?_)
  refine lv_aload_n hx hb dX3_textOf_16 rfl (lv_at hl 0 rfl) ?_
  obtain ⟨fs25, v26, hm27, hv28, h⟩ := h
  refine k_get (ci := 4) (C := RX3) (T := TX3) (N := 8) hx hb hts in_X3_textOf_X3 hown hK hR hm27 rfl 7 (by decide) hw1 (fun _ h9 => h9) hv28 dX3_textOf_17 ?_
  obtain ⟨hwc, hws, h⟩ := h
  refine W.widen (k := mc) (n := ms) hwc hws ?_
  exact k_retq hx hb hr (by first | exact Or.inl ⟨_, rfl⟩ | exact Or.inr ⟨_, rfl⟩) hlocks hR hS h dX3_textOf_20

def wp_X3_of (G : k_G) (mc ms : Nat) (post : Int32 → k_M → Prop) (p0 : Nat) (p1 : Int32) (p2 : Int32) (M0 : k_M) : Prop :=
  (∃ fs1 v2, M0 p0 = some (kO 4 fs1) ∧ fs1[0]? = some (.ref v2) ∧
  (∃ fs8, M0 v2 = some (kO 3 fs8) ∧ (0 ≤ mc ∧ 0 ≤ ms ∧ wp_X2_isHelper G (fun r5 M6 =>
  ((¬ r5 = 0 →
  (∃ fs11 v12, M6 p0 = some (kO 4 fs11) ∧ fs11[0]? = some (.ref v12) ∧
    (∃ fs15 v16, M6 v12 = some (kO 3 fs15) ∧ fs15[1]? = some (.ref v16) ∧
    (∃ n19 f20 v21, M6 v16 = some (kO1 G n19 f20) ∧ vp_in p1 n19 ∧ f20 (p1).toNatClampNeg = some v21 ∧
    (((p2).toInt = 0 →
    (∃ fs25 v26, M6 p0 = some (kO 4 fs25) ∧ fs25[0]? = some (.ref v26) ∧
      (∃ fs29 v30, M6 v26 = some (kO 3 fs29) ∧ fs29[0]? = some (.ref v30) ∧
      (∃ n33 f34, M6 v30 = some (kI G n33 f34) ∧ vp_in p1 n33 ∧
      0 ≤ mc ∧ 0 ≤ ms ∧ post (f34 (p1).toNatClampNeg) M6)))) ∧
    ((p2).toInt = 1 →
    (∃ fs37 v38, M6 p0 = some (kO 4 fs37) ∧ fs37[0]? = some (.ref v38) ∧
      (∃ fs41 v42, M6 v38 = some (kO 3 fs41) ∧ fs41[0]? = some (.ref v42) ∧
      (∃ n45 f46, M6 v42 = some (kI G n45 f46) ∧ vp_in p1 n45 ∧
      (0 ≤ mc ∧ 0 ≤ ms ∧ wp_J6_bitCount_0f7a4 G (fun r49 M50 =>
      0 ≤ mc ∧ 0 ≤ ms ∧ post r49 M50) (f46 (p1).toNatClampNeg) M6))))) ∧
    ((p2).toInt = 2 →
    (∃ fs57, M6 v21 = some (kO 2 fs57) ∧ (0 ≤ mc ∧ 0 ≤ ms ∧ wp_X1_greatestIn G (fun r54 M55 =>
      0 ≤ mc ∧ 0 ≤ ms ∧ post r54 M55) v21 (65535 : Int32) M6))) ∧
    ((p2).toInt = 3 →
    (∃ fs63, M6 v21 = some (kO 2 fs63) ∧ (0 ≤ mc ∧ 0 ≤ ms ∧ wp_X1_sum G (fun r60 M61 =>
      0 ≤ mc ∧ 0 ≤ ms ∧ post r60 M61) v21 M6))) ∧
    ((p2).toInt = 4 →
    (∃ fs69, M6 v21 = some (kO 2 fs69) ∧ (0 ≤ mc ∧ 0 ≤ ms ∧ wp_X1_knownCount G (fun r66 M67 =>
      0 ≤ mc ∧ 0 ≤ ms ∧ post r66 M67) v21 M6))) ∧
    ((p2).toInt = 5 →
    (∃ fs75, M6 v21 = some (kO 2 fs75) ∧ (0 ≤ mc ∧ 0 ≤ ms ∧ wp_X1_latestKnown G (fun r72 M73 =>
      0 ≤ mc ∧ 0 ≤ ms ∧ post r72 M73) v21 M6))) ∧
    ((p2).toInt = 6 →
    (∃ fs81, M6 v21 = some (kO 2 fs81) ∧ (0 ≤ mc ∧ 0 ≤ ms ∧ wp_X1_knots G (fun r78 M79 =>
      0 ≤ mc ∧ 0 ≤ ms ∧ post r78 M79) v21 M6))) ∧
    ((p2).toInt = 7 →
    (∃ fs89, M6 p0 = some (kO 4 fs89) ∧ (∃ mc84 ms85 : Nat, 0 + mc84 ≤ mc ∧ 0 + ms85 ≤ ms ∧ wp_X3_textOf G mc84 ms85 (fun r86 M87 => ∃ v92, r86 = some v92 ∧
      (∃ fs96, M87 v92 = some (kO 0 fs96) ∧ ((0 + mc84) ≤ mc ∧ (0 + ms85) ≤ ms ∧ wp_J4_length_8abf5 G (fun r93 M94 =>
      (0 + mc84) ≤ mc ∧ (0 + ms85) ≤ ms ∧ post r93 M94) v92 M87))) p0 v21 M6))) ∧
    ((p2).toInt < 0 ∨ 7 < (p2).toInt →
    0 ≤ mc ∧ 0 ≤ ms ∧ post (-2 : Int32) M6)))))) ∧
  (r5 = 0 →
  0 ≤ mc ∧ 0 ≤ ms ∧ post (-1 : Int32) M6))) v2 p1 M0)))
theorem in_X3_of_X2 : ∀ w ∈ wsX20, w ∈ wsX3_of := by decide +kernel
theorem in_X3_of_X3 : ∀ w ∈ wsX30, w ∈ wsX3_of := by decide +kernel
set_option maxHeartbeats 4000000 in
set_option maxRecDepth 100000 in
theorem c_X3_of (l : Launch) (G : k_G) (mc ms : Nat) (M0 : k_M) (sz : Nat) (post : Int32 → k_M → Prop) (p0 : Nat) (p1 : Int32) (p2 : Int32) (h : wp_X3_of G mc ms post p0 p1 p2 M0) : Met l yX3_of wsX3_of ({ frames := 14, cells := mc, slots := ms, locals := 316 }) (va_Pc [.ref p0, .int p1, .int p2] (kPre G M0 sz)) (va_Qi post (kB G M0 sz) (kA M0 sz)) mc ms (kA M0 sz) := by
  refine Met.ofW (cc := cX3_of) (maxL := 4) (ret := (some .int)) (by decide) rfl ?_
  intro p e s m args below meth c s₁ B hml hv
  obtain ⟨rfl, hsz, hR, hE⟩ := hv
  have hx := B.exec
  have hb := B.bytes
  have hr := B.returns
  have hts := atoms_spec (ws := wsX3_of) B.pre
  have hown : s.vm.findClass RX3 = some m.cls := findClass_of_methodNamed B.named
  have hlocks := B.notSynchronized
  subst hsz
  have hK := hE.1
  have hA : ∀ q, s.heap.size ≤ q → kA M0 s.heap.size q := kA.new
  have hS : va_S (kA M0 s.heap.size) s.heap s.heap [] := va_S.rf
  have hw1 := hts (.fieldLink RX3 10 "ForkedStamps" "now" "LForkedStamps$State;") (by decide +kernel)
  have hw2 := hts (.fieldLink RX3 93 "ForkedStamps$State" "helpers" "[LForkedStamps$Stamp;") (by decide +kernel)
  have hw3 := hts (.fieldLink RX3 48 "ForkedStamps$State" "shares" "[I") (by decide +kernel)
  have hw4 := hts (.constant RX3 52 (65535)) (by decide +kernel)
  have hl := lv_entry ([.ref p0, .int p1, .int p2]) (n := 4) (Nat.le_of_ble_eq_true rfl)
  rw [lg_entry_eq]
  generalize (lg_sl ([.ref p0, .int p1, .int p2]) ++ List.replicate (4 - (lg_sl ([.ref p0, .int p1, .int p2])).length) Slot.unset).toArray = ls at hl ⊢
  have hl : lv_has ls 4 [(0, .ref p0), (1, .int p1), (2, .int p2)] := hl
  have hR0 := hR
  refine lv_aload_n hx hb dX3_of_0 rfl (lv_at hl 0 rfl) ?_
  obtain ⟨fs1, v2, hm3, hv4, h⟩ := h
  refine k_get (ci := 4) (C := RX3) (T := TX3) (N := 8) hx hb hts in_X3_of_X3 hown hK hR hm3 rfl 0 (by decide) hw1 (fun _ h9 => h9) hv4 dX3_of_1 ?_
  refine lv_iload_n hx hb dX3_of_4 rfl (lv_at hl 1 rfl) ?_
  obtain ⟨fs8, hm7, h⟩ := h
  obtain ⟨hc9, hc10, h⟩ := h
  refine k_calli0 (va_runV (As := [.int p1]) (rest := []) ⟨hx, hb, hml, hown, hts⟩ (c_X2_isHelper l G _ _ _ v2 p1 h) (cwV 1 hts gX3_of_X2_isHelper rfl rfl rfl (by decide +kernel) ⟨Nat.le_of_ble_eq_true rfl, Nat.le_of_ble_eq_true rfl⟩) (k_preV (q := (RX2, TX2, 7)) hm7 rfl hR hS hA hE) rfl rfl hl.1 rfl (lv_room (Nat.le_of_ble_eq_true rfl)) dX3_of_5 ⟨hc9, hc10⟩) hR hS hA (fun r5 M6 H locs h hR hS => ?_)
  obtain ⟨ha, hb2⟩ := h
  refine lv_if_ne (tgt := 13) hx hb dX3_of_8 (by decide) (fun hc => ?_) (fun hc => ?_)
  · replace h := ha hc
    refine lv_aload_n hx hb dX3_of_13 rfl (lv_at hl 0 rfl) ?_
    obtain ⟨fs11, v12, hm13, hv14, h⟩ := h
    refine k_get (ci := 4) (C := RX3) (T := TX3) (N := 8) hx hb hts in_X3_of_X3 hown hK hR hm13 rfl 0 (by decide) hw1 (fun _ h9 => h9) hv14 dX3_of_14 ?_
    obtain ⟨fs15, v16, hm17, hv18, h⟩ := h
    refine k_get (ci := 3) (C := RX2) (T := TX2) (N := 7) hx hb hts in_X3_of_X2 hown hK hR hm17 rfl 1 (by decide) hw2 (fun _ h9 => h9) hv18 dX3_of_17 ?_
    refine lv_iload_n hx hb dX3_of_20 rfl (lv_at hl 1 rfl) ?_
    obtain ⟨n19, f20, v21, hm22, hv23, hq24, h⟩ := h
    refine k_ald1 hx hb hK hR hm22 hv23 hq24 dX3_of_21 ?_
    refine lv_astore_n (lv' := [(3, .ref v21), (0, .ref p0), (1, .int p1), (2, .int p2)]) hx hb dX3_of_22 rfl hl (by decide) rfl (fun ls hl => ?_)
    refine lv_iload_n hx hb dX3_of_23 rfl (lv_at hl 3 rfl) ?_
    have hsw := h
    obtain ⟨hs0, hs1, hs2, hs3, hs4, hs5, hs6, hs7, hs8⟩ := hsw
    by_cases hout : (p2).toInt < 0 ∨ 7 < (p2).toInt
    · refine lv_tableOut (tgt := 131) hx hb dX3_of_24 hout (by decide) ?_
      replace h := hs8 hout
      refine lv_bipush (v := (-2 : Int32)) hx hb dX3_of_131 (by decide) ?_
      obtain ⟨hwc, hws, h⟩ := h
      refine W.widen (k := mc) (n := ms) hwc hws ?_
      exact k_reti hx hb hr hlocks rfl hR hS h dX3_of_133
    have hin : (p2).toInt = 0 ∨ (p2).toInt = 1 ∨ (p2).toInt = 2 ∨ (p2).toInt = 3 ∨ (p2).toInt = 4 ∨ (p2).toInt = 5 ∨ (p2).toInt = 6 ∨ (p2).toInt = 7 := by omega
    rcases hin with hk | hk | hk | hk | hk | hk | hk | hk
    · refine lv_tableIn (tgt := 72) (off := 48) hx hb dX3_of_24 (by omega) (by omega) (by rw [hk]; rfl) (by decide) ?_
      replace h := hs0 hk
      refine lv_aload_n hx hb dX3_of_72 rfl (lv_at hl 1 rfl) ?_
      obtain ⟨fs25, v26, hm27, hv28, h⟩ := h
      refine k_get (ci := 4) (C := RX3) (T := TX3) (N := 8) hx hb hts in_X3_of_X3 hown hK hR hm27 rfl 0 (by decide) hw1 (fun _ h9 => h9) hv28 dX3_of_73 ?_
      obtain ⟨fs29, v30, hm31, hv32, h⟩ := h
      refine k_get (ci := 3) (C := RX2) (T := TX2) (N := 7) hx hb hts in_X3_of_X2 hown hK hR hm31 rfl 0 (by decide) hw3 (fun _ h9 => h9) hv32 dX3_of_76 ?_
      refine lv_iload_n hx hb dX3_of_79 rfl (lv_at hl 2 rfl) ?_
      obtain ⟨n33, f34, hm35, hv36, h⟩ := h
      refine k_iald hx hb hK hR hm35 hv36 dX3_of_80 ?_
      obtain ⟨hwc, hws, h⟩ := h
      refine W.widen (k := mc) (n := ms) hwc hws ?_
      exact k_reti hx hb hr hlocks rfl hR hS h dX3_of_81
    · refine lv_tableIn (tgt := 82) (off := 58) hx hb dX3_of_24 (by omega) (by omega) (by rw [hk]; rfl) (by decide) ?_
      replace h := hs1 hk
      refine lv_aload_n hx hb dX3_of_82 rfl (lv_at hl 1 rfl) ?_
      obtain ⟨fs37, v38, hm39, hv40, h⟩ := h
      refine k_get (ci := 4) (C := RX3) (T := TX3) (N := 8) hx hb hts in_X3_of_X3 hown hK hR hm39 rfl 0 (by decide) hw1 (fun _ h9 => h9) hv40 dX3_of_83 ?_
      obtain ⟨fs41, v42, hm43, hv44, h⟩ := h
      refine k_get (ci := 3) (C := RX2) (T := TX2) (N := 7) hx hb hts in_X3_of_X2 hown hK hR hm43 rfl 0 (by decide) hw3 (fun _ h9 => h9) hv44 dX3_of_86 ?_
      refine lv_iload_n hx hb dX3_of_89 rfl (lv_at hl 2 rfl) ?_
      obtain ⟨n45, f46, hm47, hv48, h⟩ := h
      refine k_iald hx hb hK hR hm47 hv48 dX3_of_90 ?_
      obtain ⟨hc52, hc53, h⟩ := h
      refine k_calli0 (va_runS (As := [.int (f46 (p1).toNatClampNeg)]) (rest := []) ⟨hx, hb, hml, hown, hts⟩ (c_J6_bitCount_0f7a4 l G _ _ _ (f46 (p1).toNatClampNeg) h) (va_cwS 1 hts gX3_of_J6_bitCount_0f7a4 rfl rfl rfl (by decide +kernel) ⟨Nat.le_of_ble_eq_true rfl, Nat.le_of_ble_eq_true rfl⟩) (k_preS hR hS hA hE) rfl rfl hl.1 rfl (lv_room (Nat.le_of_ble_eq_true rfl)) dX3_of_91 ⟨hc52, hc53⟩) hR hS hA (fun r49 M50 H locs h hR hS => ?_)
      obtain ⟨hwc, hws, h⟩ := h
      refine W.widen (k := mc) (n := ms) hwc hws ?_
      exact k_reti hx hb hr hlocks rfl hR hS h dX3_of_94
    · refine lv_tableIn (tgt := 95) (off := 71) hx hb dX3_of_24 (by omega) (by omega) (by rw [hk]; rfl) (by decide) ?_
      replace h := hs2 hk
      refine lv_aload_n hx hb dX3_of_95 rfl (lv_at hl 0 rfl) ?_
      refine lv_ldc (v := (65535 : Int32)) hx hb hown hw4 dX3_of_96 ?_
      obtain ⟨fs57, hm56, h⟩ := h
      obtain ⟨hc58, hc59, h⟩ := h
      refine k_calli0 (va_runV (As := [.int (65535 : Int32)]) (rest := []) ⟨hx, hb, hml, hown, hts⟩ (c_X1_greatestIn l G _ _ _ v21 (65535 : Int32) h) (cwV 1 hts gX3_of_X1_greatestIn rfl rfl rfl (by decide +kernel) ⟨Nat.le_of_ble_eq_true rfl, Nat.le_of_ble_eq_true rfl⟩) (k_preV (q := (RX1, TX1, 3)) hm56 rfl hR hS hA hE) rfl rfl hl.1 rfl (lv_room (Nat.le_of_ble_eq_true rfl)) dX3_of_98 ⟨hc58, hc59⟩) hR hS hA (fun r54 M55 H locs h hR hS => ?_)
      obtain ⟨hwc, hws, h⟩ := h
      refine W.widen (k := mc) (n := ms) hwc hws ?_
      exact k_reti hx hb hr hlocks rfl hR hS h dX3_of_101
    · refine lv_tableIn (tgt := 102) (off := 78) hx hb dX3_of_24 (by omega) (by omega) (by rw [hk]; rfl) (by decide) ?_
      replace h := hs3 hk
      refine lv_aload_n hx hb dX3_of_102 rfl (lv_at hl 0 rfl) ?_
      obtain ⟨fs63, hm62, h⟩ := h
      obtain ⟨hc64, hc65, h⟩ := h
      refine k_calli0 (va_runV (As := []) (rest := []) ⟨hx, hb, hml, hown, hts⟩ (c_X1_sum l G _ _ _ v21 h) (cwV 0 hts gX3_of_X1_sum rfl rfl rfl (by decide +kernel) ⟨Nat.le_of_ble_eq_true rfl, Nat.le_of_ble_eq_true rfl⟩) (k_preV (q := (RX1, TX1, 3)) hm62 rfl hR hS hA hE) rfl rfl hl.1 rfl (lv_room (Nat.le_of_ble_eq_true rfl)) dX3_of_103 ⟨hc64, hc65⟩) hR hS hA (fun r60 M61 H locs h hR hS => ?_)
      obtain ⟨hwc, hws, h⟩ := h
      refine W.widen (k := mc) (n := ms) hwc hws ?_
      exact k_reti hx hb hr hlocks rfl hR hS h dX3_of_106
    · refine lv_tableIn (tgt := 107) (off := 83) hx hb dX3_of_24 (by omega) (by omega) (by rw [hk]; rfl) (by decide) ?_
      replace h := hs4 hk
      refine lv_aload_n hx hb dX3_of_107 rfl (lv_at hl 0 rfl) ?_
      obtain ⟨fs69, hm68, h⟩ := h
      obtain ⟨hc70, hc71, h⟩ := h
      refine k_calli0 (va_runV (As := []) (rest := []) ⟨hx, hb, hml, hown, hts⟩ (c_X1_knownCount l G _ _ _ v21 h) (cwV 0 hts gX3_of_X1_knownCount rfl rfl rfl (by decide +kernel) ⟨Nat.le_of_ble_eq_true rfl, Nat.le_of_ble_eq_true rfl⟩) (k_preV (q := (RX1, TX1, 3)) hm68 rfl hR hS hA hE) rfl rfl hl.1 rfl (lv_room (Nat.le_of_ble_eq_true rfl)) dX3_of_108 ⟨hc70, hc71⟩) hR hS hA (fun r66 M67 H locs h hR hS => ?_)
      obtain ⟨hwc, hws, h⟩ := h
      refine W.widen (k := mc) (n := ms) hwc hws ?_
      exact k_reti hx hb hr hlocks rfl hR hS h dX3_of_111
    · refine lv_tableIn (tgt := 112) (off := 88) hx hb dX3_of_24 (by omega) (by omega) (by rw [hk]; rfl) (by decide) ?_
      replace h := hs5 hk
      refine lv_aload_n hx hb dX3_of_112 rfl (lv_at hl 0 rfl) ?_
      obtain ⟨fs75, hm74, h⟩ := h
      obtain ⟨hc76, hc77, h⟩ := h
      refine k_calli0 (va_runV (As := []) (rest := []) ⟨hx, hb, hml, hown, hts⟩ (c_X1_latestKnown l G _ _ _ v21 h) (cwV 0 hts gX3_of_X1_latestKnown rfl rfl rfl (by decide +kernel) ⟨Nat.le_of_ble_eq_true rfl, Nat.le_of_ble_eq_true rfl⟩) (k_preV (q := (RX1, TX1, 3)) hm74 rfl hR hS hA hE) rfl rfl hl.1 rfl (lv_room (Nat.le_of_ble_eq_true rfl)) dX3_of_113 ⟨hc76, hc77⟩) hR hS hA (fun r72 M73 H locs h hR hS => ?_)
      obtain ⟨hwc, hws, h⟩ := h
      refine W.widen (k := mc) (n := ms) hwc hws ?_
      exact k_reti hx hb hr hlocks rfl hR hS h dX3_of_116
    · refine lv_tableIn (tgt := 117) (off := 93) hx hb dX3_of_24 (by omega) (by omega) (by rw [hk]; rfl) (by decide) ?_
      replace h := hs6 hk
      refine lv_aload_n hx hb dX3_of_117 rfl (lv_at hl 0 rfl) ?_
      obtain ⟨fs81, hm80, h⟩ := h
      obtain ⟨hc82, hc83, h⟩ := h
      refine k_calli0 (va_runV (As := []) (rest := []) ⟨hx, hb, hml, hown, hts⟩ (c_X1_knots l G _ _ _ v21 h) (cwV 0 hts gX3_of_X1_knots rfl rfl rfl (by decide +kernel) ⟨Nat.le_of_ble_eq_true rfl, Nat.le_of_ble_eq_true rfl⟩) (k_preV (q := (RX1, TX1, 3)) hm80 rfl hR hS hA hE) rfl rfl hl.1 rfl (lv_room (Nat.le_of_ble_eq_true rfl)) dX3_of_118 ⟨hc82, hc83⟩) hR hS hA (fun r78 M79 H locs h hR hS => ?_)
      obtain ⟨hwc, hws, h⟩ := h
      refine W.widen (k := mc) (n := ms) hwc hws ?_
      exact k_reti hx hb hr hlocks rfl hR hS h dX3_of_121
    · refine lv_tableIn (tgt := 122) (off := 98) hx hb dX3_of_24 (by omega) (by omega) (by rw [hk]; rfl) (by decide) ?_
      replace h := hs7 hk
      refine lv_aload_n hx hb dX3_of_122 rfl (lv_at hl 1 rfl) ?_
      refine lv_aload_n hx hb dX3_of_123 rfl (lv_at hl 0 rfl) ?_
      obtain ⟨fs89, hm88, h⟩ := h
      obtain ⟨mc84, ms85, hc90, hc91, h⟩ := h
      refine k_callq (va_runV (As := [.ref v21]) (rest := []) ⟨hx, hb, hml, hown, hts⟩ (c_X3_textOf l G mc84 ms85 _ _ _ p0 v21 h) (cwV 1 hts gX3_of_X3_textOf rfl rfl rfl (by decide +kernel) ⟨Nat.le_of_ble_eq_true rfl, Nat.le_of_ble_eq_true rfl⟩) (k_preV (q := (RX3, TX3, 8)) hm88 rfl hR hS hA hE) rfl rfl hl.1 rfl (lv_room (Nat.le_of_ble_eq_true rfl)) dX3_of_124 ⟨hc90, hc91⟩) hR hS hA (fun r86 M87 H locs h hR hS => ?_)
      obtain ⟨v92, rfl, h⟩ := h
      obtain ⟨fs96, hm95, h⟩ := h
      obtain ⟨hc97, hc98, h⟩ := h
      refine k_calli0 (va_runV (As := []) (rest := []) ⟨hx, hb, hml, hown, hts⟩ (c_J4_length_8abf5 l G _ _ _ v92 h) (cwV 0 hts gX3_of_J4_length_8abf5 rfl rfl rfl (by decide +kernel) ⟨Nat.le_of_ble_eq_true rfl, Nat.le_of_ble_eq_true rfl⟩) (k_preV (q := (RJ4, TJ4, 4)) hm95 rfl hR hS hA hE) rfl rfl hl.1 rfl (lv_room (Nat.le_of_ble_eq_true rfl)) dX3_of_127 ⟨hc97, hc98⟩) hR hS hA (fun r93 M94 H locs h hR hS => ?_)
      obtain ⟨hwc, hws, h⟩ := h
      refine W.widen (k := mc) (n := ms) hwc hws ?_
      exact k_reti hx hb hr hlocks rfl hR hS h dX3_of_130
  · replace h := hb2 hc
    refine lv_iconst (v := (-1 : Int32)) hx hb dX3_of_11 (by decide) ?_
    obtain ⟨hwc, hws, h⟩ := h
    refine W.widen (k := mc) (n := ms) hwc hws ?_
    exact k_reti hx hb hr hlocks rfl hR hS h dX3_of_12

def wp_X3_printed (G : k_G) (mc ms : Nat) (post : Int32 → k_M → Prop) (p0 : Nat) (p1 : Int32) (p2 : Int32) (M0 : k_M) : Prop :=
  (∃ fs1 v2, M0 p0 = some (kO 4 fs1) ∧ fs1[0]? = some (.ref v2) ∧
  (∃ fs8, M0 v2 = some (kO 3 fs8) ∧ (0 ≤ mc ∧ 0 ≤ ms ∧ wp_X2_isHelper G (fun r5 M6 =>
  ((¬ r5 = 0 →
  (∃ fs11 v12, M6 p0 = some (kO 4 fs11) ∧ fs11[0]? = some (.ref v12) ∧
    (∃ fs15 v16, M6 v12 = some (kO 3 fs15) ∧ fs15[1]? = some (.ref v16) ∧
    (∃ n19 f20 v21, M6 v16 = some (kO1 G n19 f20) ∧ vp_in p1 n19 ∧ f20 (p1).toNatClampNeg = some v21 ∧
    (∃ fs30, M6 p0 = some (kO 4 fs30) ∧ (∃ mc25 ms26 : Nat, 0 + mc25 ≤ mc ∧ 0 + ms26 ≤ ms ∧ wp_X3_textOf G mc25 ms26 (fun r27 M28 => ∃ v33, r27 = some v33 ∧
    ((p2 < 0 →
    (0 + mc25) ≤ mc ∧ (0 + ms26) ≤ ms ∧ post (-1 : Int32) M28) ∧
    (¬ p2 < 0 →
    (∃ fs37, M28 v33 = some (kO 0 fs37) ∧ ((0 + mc25) ≤ mc ∧ (0 + ms26) ≤ ms ∧ wp_J4_length_8abf5 G (fun r34 M35 =>
      ((p2 < r34 →
      (∃ fs43, M35 v33 = some (kO 0 fs43) ∧ ((0 + mc25) ≤ mc ∧ (0 + ms26) ≤ ms ∧ wp_J4_charAt_5068e G (fun r40 M41 =>
        (0 + mc25) ≤ mc ∧ (0 + ms26) ≤ ms ∧ post r40 M41) v33 p2 M35))) ∧
      (¬ p2 < r34 →
      (0 + mc25) ≤ mc ∧ (0 + ms26) ≤ ms ∧ post (-1 : Int32) M35))) v33 M28))))) p0 v21 M6)))))) ∧
  (r5 = 0 →
  0 ≤ mc ∧ 0 ≤ ms ∧ post (-1 : Int32) M6))) v2 p1 M0)))
theorem in_X3_printed_X2 : ∀ w ∈ wsX20, w ∈ wsX3_printed := by decide +kernel
theorem in_X3_printed_X3 : ∀ w ∈ wsX30, w ∈ wsX3_printed := by decide +kernel
set_option maxHeartbeats 4000000 in
set_option maxRecDepth 100000 in
theorem c_X3_printed (l : Launch) (G : k_G) (mc ms : Nat) (M0 : k_M) (sz : Nat) (post : Int32 → k_M → Prop) (p0 : Nat) (p1 : Int32) (p2 : Int32) (h : wp_X3_printed G mc ms post p0 p1 p2 M0) : Met l yX3_printed wsX3_printed ({ frames := 14, cells := mc, slots := ms, locals := 316 }) (va_Pc [.ref p0, .int p1, .int p2] (kPre G M0 sz)) (va_Qi post (kB G M0 sz) (kA M0 sz)) mc ms (kA M0 sz) := by
  refine Met.ofW (cc := cX3_printed) (maxL := 4) (ret := (some .int)) (by decide) rfl ?_
  intro p e s m args below meth c s₁ B hml hv
  obtain ⟨rfl, hsz, hR, hE⟩ := hv
  have hx := B.exec
  have hb := B.bytes
  have hr := B.returns
  have hts := atoms_spec (ws := wsX3_printed) B.pre
  have hown : s.vm.findClass RX3 = some m.cls := findClass_of_methodNamed B.named
  have hlocks := B.notSynchronized
  subst hsz
  have hK := hE.1
  have hA : ∀ q, s.heap.size ≤ q → kA M0 s.heap.size q := kA.new
  have hS : va_S (kA M0 s.heap.size) s.heap s.heap [] := va_S.rf
  have hw1 := hts (.fieldLink RX3 10 "ForkedStamps" "now" "LForkedStamps$State;") (by decide +kernel)
  have hw2 := hts (.fieldLink RX3 93 "ForkedStamps$State" "helpers" "[LForkedStamps$Stamp;") (by decide +kernel)
  have hl := lv_entry ([.ref p0, .int p1, .int p2]) (n := 4) (Nat.le_of_ble_eq_true rfl)
  rw [lg_entry_eq]
  generalize (lg_sl ([.ref p0, .int p1, .int p2]) ++ List.replicate (4 - (lg_sl ([.ref p0, .int p1, .int p2])).length) Slot.unset).toArray = ls at hl ⊢
  have hl : lv_has ls 4 [(0, .ref p0), (1, .int p1), (2, .int p2)] := hl
  have hR0 := hR
  refine lv_aload_n hx hb dX3_printed_0 rfl (lv_at hl 0 rfl) ?_
  obtain ⟨fs1, v2, hm3, hv4, h⟩ := h
  refine k_get (ci := 4) (C := RX3) (T := TX3) (N := 8) hx hb hts in_X3_printed_X3 hown hK hR hm3 rfl 0 (by decide) hw1 (fun _ h9 => h9) hv4 dX3_printed_1 ?_
  refine lv_iload_n hx hb dX3_printed_4 rfl (lv_at hl 1 rfl) ?_
  obtain ⟨fs8, hm7, h⟩ := h
  obtain ⟨hc9, hc10, h⟩ := h
  refine k_calli0 (va_runV (As := [.int p1]) (rest := []) ⟨hx, hb, hml, hown, hts⟩ (c_X2_isHelper l G _ _ _ v2 p1 h) (cwV 1 hts gX3_printed_X2_isHelper rfl rfl rfl (by decide +kernel) ⟨Nat.le_of_ble_eq_true rfl, Nat.le_of_ble_eq_true rfl⟩) (k_preV (q := (RX2, TX2, 7)) hm7 rfl hR hS hA hE) rfl rfl hl.1 rfl (lv_room (Nat.le_of_ble_eq_true rfl)) dX3_printed_5 ⟨hc9, hc10⟩) hR hS hA (fun r5 M6 H locs h hR hS => ?_)
  obtain ⟨ha, hb2⟩ := h
  refine lv_if_ne (tgt := 13) hx hb dX3_printed_8 (by decide) (fun hc => ?_) (fun hc => ?_)
  · replace h := ha hc
    refine lv_aload_n hx hb dX3_printed_13 rfl (lv_at hl 0 rfl) ?_
    refine lv_aload_n hx hb dX3_printed_14 rfl (lv_at hl 0 rfl) ?_
    obtain ⟨fs11, v12, hm13, hv14, h⟩ := h
    refine k_get (ci := 4) (C := RX3) (T := TX3) (N := 8) hx hb hts in_X3_printed_X3 hown hK hR hm13 rfl 0 (by decide) hw1 (fun _ h9 => h9) hv14 dX3_printed_15 ?_
    obtain ⟨fs15, v16, hm17, hv18, h⟩ := h
    refine k_get (ci := 3) (C := RX2) (T := TX2) (N := 7) hx hb hts in_X3_printed_X2 hown hK hR hm17 rfl 1 (by decide) hw2 (fun _ h9 => h9) hv18 dX3_printed_18 ?_
    refine lv_iload_n hx hb dX3_printed_21 rfl (lv_at hl 1 rfl) ?_
    obtain ⟨n19, f20, v21, hm22, hv23, hq24, h⟩ := h
    refine k_ald1 hx hb hK hR hm22 hv23 hq24 dX3_printed_22 ?_
    obtain ⟨fs30, hm29, h⟩ := h
    obtain ⟨mc25, ms26, hc31, hc32, h⟩ := h
    refine k_callq (va_runV (As := [.ref v21]) (rest := []) ⟨hx, hb, hml, hown, hts⟩ (c_X3_textOf l G mc25 ms26 _ _ _ p0 v21 h) (cwV 1 hts gX3_printed_X3_textOf rfl rfl rfl (by decide +kernel) ⟨Nat.le_of_ble_eq_true rfl, Nat.le_of_ble_eq_true rfl⟩) (k_preV (q := (RX3, TX3, 8)) hm29 rfl hR hS hA hE) rfl rfl hl.1 rfl (lv_room (Nat.le_of_ble_eq_true rfl)) dX3_printed_23 ⟨hc31, hc32⟩) hR hS hA (fun r27 M28 H locs h hR hS => ?_)
    obtain ⟨v33, rfl, h⟩ := h
    refine lv_astore_n (lv' := [(3, .ref v33), (0, .ref p0), (1, .int p1), (2, .int p2)]) hx hb dX3_printed_26 rfl hl (by decide) rfl (fun ls hl => ?_)
    refine lv_iload_n hx hb dX3_printed_27 rfl (lv_at hl 3 rfl) ?_
    obtain ⟨ha, hb2⟩ := h
    refine lv_if_lt (tgt := 39) hx hb dX3_printed_28 (by decide) (fun hc => ?_) (fun hc => ?_)
    · replace h := ha hc
      refine lv_iconst (v := (-1 : Int32)) hx hb dX3_printed_39 (by decide) ?_
      obtain ⟨hwc, hws, h⟩ := h
      refine W.widen (k := mc) (n := ms) hwc hws ?_
      exact k_reti hx hb hr hlocks rfl hR hS h dX3_printed_40
    · replace h := hb2 hc
      refine lv_iload_n hx hb dX3_printed_31 rfl (lv_at hl 3 rfl) ?_
      refine lv_aload_n hx hb dX3_printed_32 rfl (lv_at hl 0 rfl) ?_
      obtain ⟨fs37, hm36, h⟩ := h
      obtain ⟨hc38, hc39, h⟩ := h
      refine k_calli0 (va_runV (As := []) (rest := [.int p2]) ⟨hx, hb, hml, hown, hts⟩ (c_J4_length_8abf5 l G _ _ _ v33 h) (cwV 0 hts gX3_printed_J4_length_8abf5 rfl rfl rfl (by decide +kernel) ⟨Nat.le_of_ble_eq_true rfl, Nat.le_of_ble_eq_true rfl⟩) (k_preV (q := (RJ4, TJ4, 4)) hm36 rfl hR hS hA hE) rfl rfl hl.1 rfl (lv_room (Nat.le_of_ble_eq_true rfl)) dX3_printed_33 ⟨hc38, hc39⟩) hR hS hA (fun r34 M35 H locs h hR hS => ?_)
      obtain ⟨ha, hb2⟩ := h
      refine lv_icmp_lt (tgt := 41) hx hb dX3_printed_36 (by decide) (fun hc => ?_) (fun hc => ?_)
      · replace h := ha hc
        refine lv_aload_n hx hb dX3_printed_41 rfl (lv_at hl 0 rfl) ?_
        refine lv_iload_n hx hb dX3_printed_42 rfl (lv_at hl 3 rfl) ?_
        obtain ⟨fs43, hm42, h⟩ := h
        obtain ⟨hc44, hc45, h⟩ := h
        refine k_calli0 (va_runV (As := [.int p2]) (rest := []) ⟨hx, hb, hml, hown, hts⟩ (c_J4_charAt_5068e l G _ _ _ v33 p2 h) (cwV 1 hts gX3_printed_J4_charAt_5068e rfl rfl rfl (by decide +kernel) ⟨Nat.le_of_ble_eq_true rfl, Nat.le_of_ble_eq_true rfl⟩) (k_preV (q := (RJ4, TJ4, 4)) hm42 rfl hR hS hA hE) rfl rfl hl.1 rfl (lv_room (Nat.le_of_ble_eq_true rfl)) dX3_printed_43 ⟨hc44, hc45⟩) hR hS hA (fun r40 M41 H locs h hR hS => ?_)
        obtain ⟨hwc, hws, h⟩ := h
        refine W.widen (k := mc) (n := ms) hwc hws ?_
        exact k_reti hx hb hr hlocks rfl hR hS h dX3_printed_46
      · replace h := hb2 hc
        refine lv_iconst (v := (-1 : Int32)) hx hb dX3_printed_39 (by decide) ?_
        obtain ⟨hwc, hws, h⟩ := h
        refine W.widen (k := mc) (n := ms) hwc hws ?_
        exact k_reti hx hb hr hlocks rfl hR hS h dX3_printed_40
  · replace h := hb2 hc
    refine lv_iconst (v := (-1 : Int32)) hx hb dX3_printed_11 (by decide) ?_
    obtain ⟨hwc, hws, h⟩ := h
    refine W.widen (k := mc) (n := ms) hwc hws ?_
    exact k_reti hx hb hr hlocks rfl hR hS h dX3_printed_12

def wp_X3_init_L101 (G : k_G) (mc ms : Nat) (post : k_M → Prop) : Nat → Nat → Int32 → Nat → Nat → k_M → Prop
  | 0 => fun _ _ _ _ _ => False
  | n + 1 => fun x0 x1 kc ks M =>
  (((2 : Int32) ≤ x1 →
      (∃ fs99 v100, M x0 = some (kO 4 fs99) ∧ fs99[0]? = some (.ref v100) ∧
        (∃ fs103 v104, M v100 = some (kO 3 fs103) ∧ fs103[0]? = some (.ref v104) ∧
        (∃ n107 f108, M v104 = some (kI G n107 f108) ∧ vp_in (0 : Int32) n107 ∧ ∀ M109 : k_M, M109 = va_up M v104 (some (kI G n107 (upd f108 ((0 : Int32)).toNatClampNeg (65535 : Int32)))) →
        kc ≤ mc ∧ ks ≤ ms ∧ post M109)))) ∧
      (¬ (2 : Int32) ≤ x1 →
      (∃ fs112 v113, M x0 = some (kO 4 fs112) ∧ fs112[3]? = some (.ref v113) ∧
        (kc + 1 ≤ mc ∧ ks + 7 ≤ ms ∧ ∀ (q116 : Nat) (M117 : k_M), M q116 = none → M117 = va_up M q116 (some (kO 3 [.null, .null, .null, .null, .int 0, .null, .int 0])) →
        (∃ mc120 ms121 : Nat, (kc + 1) + mc120 ≤ mc ∧ (ks + 7) + ms121 ≤ ms ∧ wp_X2_init G mc120 ms121 (fun M123 =>
        (∃ n127 f128 fs132, M123 v113 = some (kO2 G n127 f128) ∧ M123 q116 = some (kO 3 fs132) ∧ vp_in x1 n127 ∧ ∀ M129 : k_M, M129 = va_up M123 v113 (some (kO2 G n127 (va_up f128 (x1).toNatClampNeg (some q116)))) →
        (wp_X3_init_L101 G mc ms post n) x0 (x1 + (1 : Int32)) ((kc + 1) + mc120) ((ks + 7) + ms121) M129)) q116 M117)))))
def wp_X3_init_L74 (G : k_G) (mc ms : Nat) (post : k_M → Prop) : Nat → Nat → Int32 → Nat → Nat → k_M → Prop
  | 0 => fun _ _ _ _ _ => False
  | n + 1 => fun x0 x1 kc ks M =>
  (((6 : Int32) ≤ x1 →
      ∃ k98, wp_X3_init_L101 G mc ms post k98 x0 (0 : Int32) kc ks M) ∧
      (¬ (6 : Int32) ≤ x1 →
      (∃ fs134 v135, M x0 = some (kO 4 fs134) ∧ fs134[1]? = some (.ref v135) ∧
        (kc + 1 ≤ mc ∧ ks + 7 ≤ ms ∧ ∀ (q138 : Nat) (M139 : k_M), M q138 = none → M139 = va_up M q138 (some (kO 3 [.null, .null, .null, .null, .int 0, .null, .int 0])) →
        (∃ mc142 ms143 : Nat, (kc + 1) + mc142 ≤ mc ∧ (ks + 7) + ms143 ≤ ms ∧ wp_X2_init G mc142 ms143 (fun M145 =>
        (∃ n149 f150 fs154, M145 v135 = some (kO2 G n149 f150) ∧ M145 q138 = some (kO 3 fs154) ∧ vp_in x1 n149 ∧ ∀ M151 : k_M, M151 = va_up M145 v135 (some (kO2 G n149 (va_up f150 (x1).toNatClampNeg (some q138)))) →
        (wp_X3_init_L74 G mc ms post n) x0 (x1 + (1 : Int32)) ((kc + 1) + mc142) ((ks + 7) + ms143) M151)) q138 M139)))))
def wp_X3_init (G : k_G) (mc ms : Nat) (post : k_M → Prop) (p0 : Nat) (M0 : k_M) : Prop :=
  (0 + 1 ≤ mc ∧ 0 + 7 ≤ ms ∧ ∀ (q1 : Nat) (M2 : k_M), M0 q1 = none → M2 = va_up M0 q1 (some (kO 3 [.null, .null, .null, .null, .int 0, .null, .int 0])) →
  (∃ mc5 ms6 : Nat, (0 + 1) + mc5 ≤ mc ∧ (0 + 7) + ms6 ≤ ms ∧ wp_X2_init G mc5 ms6 (fun M8 =>
  (∃ fs12, M8 p0 = some (kO 4 fs12) ∧ 0 < fs12.length ∧ ∀ M13 : k_M, M13 = va_up M8 p0 (some (kO 4 (fs12.set 0 (.ref q1)))) →
  (∃ N16 : Nat, ¬ (6 : Int32) < 0 ∧ ((6 : Int32)).toNatClampNeg = N16 ∧ N16 * 4 ≤ 536870912 ∧ ((0 + 1) + mc5) + 1 ≤ mc ∧ ((0 + 7) + ms6) + N16 ≤ ms ∧ ∀ (q17 : Nat) (M18 : k_M), M13 q17 = none → M18 = va_up M13 q17 (some (kO2 G N16 (fun _ => none))) →
  (∃ fs24, M18 p0 = some (kO 4 fs24) ∧ 1 < fs24.length ∧ ∀ M25 : k_M, M25 = va_up M18 p0 (some (kO 4 (fs24.set 1 (.ref q17)))) →
  (∃ N28 : Nat, ¬ (2 : Int32) < 0 ∧ ((2 : Int32)).toNatClampNeg = N28 ∧ N28 * 4 ≤ 536870912 ∧ (((0 + 1) + mc5) + 1) + 1 ≤ mc ∧ (((0 + 7) + ms6) + N16) + N28 ≤ ms ∧ ∀ (q29 : Nat) (M30 : k_M), M25 q29 = none → M30 = va_up M25 q29 (some (kO2 G N28 (fun _ => none))) →
  (∃ fs36, M30 p0 = some (kO 4 fs36) ∧ 3 < fs36.length ∧ ∀ M37 : k_M, M37 = va_up M30 p0 (some (kO 4 (fs36.set 3 (.ref q29)))) →
  (∃ N40 : Nat, ¬ (2 : Int32) < 0 ∧ ((2 : Int32)).toNatClampNeg = N40 ∧ N40 * 1 ≤ 536870912 ∧ ((((0 + 1) + mc5) + 1) + 1) + 1 ≤ mc ∧ ((((0 + 7) + ms6) + N16) + N28) + N40 ≤ ms ∧ ∀ (q41 : Nat) (M42 : k_M), M37 q41 = none → M42 = va_up M37 q41 (some (kZ G N40 (fun _ => 0))) →
  (∃ fs48, M42 p0 = some (kO 4 fs48) ∧ 4 < fs48.length ∧ ∀ M49 : k_M, M49 = va_up M42 p0 (some (kO 4 (fs48.set 4 (.ref q41)))) →
  ((((((0 + 1) + mc5) + 1) + 1) + 1) + 1 ≤ mc ∧ (((((0 + 7) + ms6) + N16) + N28) + N40) + 7 ≤ ms ∧ ∀ (q52 : Nat) (M53 : k_M), M49 q52 = none → M53 = va_up M49 q52 (some (kO 1 [.null, .null, .int 0, .int 0, .int 0, .int 0, .int 0])) →
  (∃ mc56 ms57 : Nat, ((((((0 + 1) + mc5) + 1) + 1) + 1) + 1) + mc56 ≤ mc ∧ ((((((0 + 7) + ms6) + N16) + N28) + N40) + 7) + ms57 ≤ ms ∧ wp_X0_init G mc56 ms57 (fun M59 =>
  (∃ fs63, M59 p0 = some (kO 4 fs63) ∧ 5 < fs63.length ∧ ∀ M64 : k_M, M64 = va_up M59 p0 (some (kO 4 (fs63.set 5 (.ref q52)))) →
  ((((((((0 + 1) + mc5) + 1) + 1) + 1) + 1) + mc56) + 1 ≤ mc ∧ (((((((0 + 7) + ms6) + N16) + N28) + N40) + 7) + ms57) + 3 ≤ ms ∧ ∀ (q67 : Nat) (M68 : k_M), M64 q67 = none → M68 = va_up M64 q67 (some (kO 2 [.null, .long 0, .long 0])) →
  (∃ mc71 ms72 : Nat, ((((((((0 + 1) + mc5) + 1) + 1) + 1) + 1) + mc56) + 1) + mc71 ≤ mc ∧ ((((((((0 + 7) + ms6) + N16) + N28) + N40) + 7) + ms57) + 3) + ms72 ≤ ms ∧ wp_X1_init G mc71 ms72 (fun M74 =>
  (∃ fs78, M74 p0 = some (kO 4 fs78) ∧ 6 < fs78.length ∧ ∀ M79 : k_M, M79 = va_up M74 p0 (some (kO 4 (fs78.set 6 (.ref q67)))) →
  ((((((((((0 + 1) + mc5) + 1) + 1) + 1) + 1) + mc56) + 1) + mc71) + 1 ≤ mc ∧ (((((((((0 + 7) + ms6) + N16) + N28) + N40) + 7) + ms57) + 3) + ms72) + 4 ≤ ms ∧ ∀ (q82 : Nat) (M83 : k_M), M79 q82 = none → M83 = va_up M79 q82 (some (kO 0 [.null, .int 0, .int 0, .int 0])) →
  (∃ mc86 ms87 : Nat, ((((((((((0 + 1) + mc5) + 1) + 1) + 1) + 1) + mc56) + 1) + mc71) + 1) + mc86 ≤ mc ∧ ((((((((((0 + 7) + ms6) + N16) + N28) + N40) + 7) + ms57) + 3) + ms72) + 4) + ms87 ≤ ms ∧ wp_J4_init_da8c8 G mc86 ms87 (fun M89 =>
  (∃ fs93, M89 p0 = some (kO 4 fs93) ∧ 7 < fs93.length ∧ ∀ M94 : k_M, M94 = va_up M89 p0 (some (kO 4 (fs93.set 7 (.ref q82)))) →
  ∃ k97, wp_X3_init_L74 G mc ms post k97 p0 (0 : Int32) (((((((((((0 + 1) + mc5) + 1) + 1) + 1) + 1) + mc56) + 1) + mc71) + 1) + mc86) (((((((((((0 + 7) + ms6) + N16) + N28) + N40) + 7) + ms57) + 3) + ms72) + 4) + ms87) M94)) q82 M83)))) q67 M68)))) q52 M53)))))))))) q1 M2))
theorem in_X3_init_J4 : ∀ w ∈ wsJ40, w ∈ wsX3_init := by decide +kernel
theorem in_X3_init_X0 : ∀ w ∈ wsX00, w ∈ wsX3_init := by decide +kernel
theorem in_X3_init_X1 : ∀ w ∈ wsX10, w ∈ wsX3_init := by decide +kernel
theorem in_X3_init_X2 : ∀ w ∈ wsX20, w ∈ wsX3_init := by decide +kernel
theorem in_X3_init_X3 : ∀ w ∈ wsX30, w ∈ wsX3_init := by decide +kernel
set_option maxHeartbeats 4000000 in
set_option maxRecDepth 100000 in
theorem c_X3_init (l : Launch) (G : k_G) (mc ms : Nat) (M0 : k_M) (sz : Nat) (post : k_M → Prop) (p0 : Nat) (h : wp_X3_init G mc ms post p0 M0) : Met l yX3_init wsX3_init ({ frames := 3, cells := mc, slots := ms, locals := 53 }) (va_Pc [.ref p0] (kPre G M0 sz)) (va_Qv post (kB G M0 sz) (kA M0 sz)) mc ms (kA M0 sz) := by
  refine Met.ofW (cc := cX3_init) (maxL := 2) (ret := none) (by decide) rfl ?_
  intro p e s m args below meth c s₁ B hml hv
  obtain ⟨rfl, hsz, hR, hE⟩ := hv
  have hx := B.exec
  have hb := B.bytes
  have hr := B.returns
  have hts := atoms_spec (ws := wsX3_init) B.pre
  have hown : s.vm.findClass RX3 = some m.cls := findClass_of_methodNamed B.named
  have hlocks := B.notSynchronized
  have hin0 : meth.name = "<init>" := (name_of_methodNamed B.named B.method).1
  subst hsz
  have hK := hE.1
  have hA : ∀ q, s.heap.size ≤ q → kA M0 s.heap.size q := kA.new
  have hS : va_S (kA M0 s.heap.size) s.heap s.heap [] := va_S.rf
  have hw1 := hts (.methodLink RX3 1 objectInit) (by decide +kernel)
  have hw2 := hts (.instanceMethod objectInit) (by decide +kernel)
  have hw3 := hts (.code objectInit ⟨#[0xb1]⟩ 1 none) (by decide +kernel)
  have hw4 := hts (.classLink RX3 7 RX2) (by decide +kernel)
  have hw5 := hts (.instantiable RX2 7) (by decide +kernel)
  have hw6 := hts (.initialized RX2) (by decide +kernel)
  have hw7 := hts (.methodLink RX3 9 yX2_init) (by decide +kernel)
  have hw8 := hts (.instanceMethod yX2_init) (by decide +kernel)
  have hw9 := hts (.fieldLink RX3 10 "ForkedStamps" "now" "LForkedStamps$State;") (by decide +kernel)
  have hw10 := hts (.fieldLink RX3 16 "ForkedStamps" "history" "[LForkedStamps$State;") (by decide +kernel)
  have hw11 := hts (.fieldLink RX3 20 "ForkedStamps" "slots" "[LForkedStamps$State;") (by decide +kernel)
  have hw12 := hts (.arrayClass .boolean) (by decide +kernel)
  have hw13 := hts (.fieldLink RX3 23 "ForkedStamps" "saved" "[Z") (by decide +kernel)
  have hw14 := hts (.classLink RX3 27 RX0) (by decide +kernel)
  have hw15 := hts (.instantiable RX0 7) (by decide +kernel)
  have hw16 := hts (.initialized RX0) (by decide +kernel)
  have hw17 := hts (.instanceMethod yX0_init) (by decide +kernel)
  have hw18 := hts (.fieldLink RX3 30 "ForkedStamps" "pad" "LForkedStamps$Pad;") (by decide +kernel)
  have hw19 := hts (.classLink RX3 34 RX1) (by decide +kernel)
  have hw20 := hts (.instantiable RX1 3) (by decide +kernel)
  have hw21 := hts (.initialized RX1) (by decide +kernel)
  have hw22 := hts (.instanceMethod yX1_init) (by decide +kernel)
  have hw23 := hts (.fieldLink RX3 37 "ForkedStamps" "trial" "LForkedStamps$Stamp;") (by decide +kernel)
  have hw24 := hts (.classLink RX3 41 RJ4) (by decide +kernel)
  have hw25 := hts (.instantiable RJ4 4) (by decide +kernel)
  have hw26 := hts (.initialized RJ4) (by decide +kernel)
  have hw27 := hts (.methodLink RX3 43 yJ4_init_da8c8) (by decide +kernel)
  have hw28 := hts (.instanceMethod yJ4_init_da8c8) (by decide +kernel)
  have hw29 := hts (.fieldLink RX3 44 "ForkedStamps" "text" "Ljava/lang/StringBuilder;") (by decide +kernel)
  have hw30 := hts (.fieldLink RX3 48 "ForkedStamps$State" "shares" "[I") (by decide +kernel)
  have hw31 := hts (.constant RX3 52 (65535)) (by decide +kernel)
  have L101 : ∀ (n : Nat), ∀ (x0 : Nat) (x1 : Int32) (kc : Nat) (ks : Nat) (M : k_M) (H : Heap) (locs : List Loc) (ls : Array Slot), wp_X3_init_L101 G mc ms post n x0 x1 kc ks M → lv_has ls 2 [(0, .ref x0), (1, .int x1)] → kR G M (kA M0 s.heap.size) H → va_S (kA M0 s.heap.size) s.heap H locs → W p l e (headSpec wsX3_init ({ frames := 3, cells := mc, slots := ms, locals := 53 })).room s m ([.ref p0] : List Value).toArray below meth c H locs kc ks (MQ below (va_Qv post (kB G M0 s.heap.size) (kA M0 s.heap.size)) ([.ref p0] : List Value).toArray s mc ms (kA M0 s.heap.size)) (F0 m 101 ls []) := by
    intro n
    induction n with
    | zero =>
      intro  x0 x1 kc ks M H locs ls h
      exact False.elim h
    | succ n ih =>
      intro  x0 x1 kc ks M H locs ls h hl hR hS
      refine lv_iload_n hx hb dX3_init_101 rfl (lv_at hl 1 rfl) ?_
      refine lv_iconst (v := (2 : Int32)) hx hb dX3_init_102 (by decide) ?_
      obtain ⟨ha, hb2⟩ := h
      refine lv_icmp_ge (tgt := 125) hx hb dX3_init_103 (by decide) (fun hc => ?_) (fun hc => ?_)
      · replace h := ha hc
        refine lv_aload_n hx hb dX3_init_125 rfl (lv_at hl 0 rfl) ?_
        obtain ⟨fs99, v100, hm101, hv102, h⟩ := h
        refine k_get (ci := 4) (C := RX3) (T := TX3) (N := 8) hx hb hts in_X3_init_X3 hown hK hR hm101 rfl 0 (by decide) hw9 (fun _ h9 => h9) hv102 dX3_init_126 ?_
        obtain ⟨fs103, v104, hm105, hv106, h⟩ := h
        refine k_get (ci := 3) (C := RX2) (T := TX2) (N := 7) hx hb hts in_X3_init_X2 hown hK hR hm105 rfl 0 (by decide) hw30 (fun _ h9 => h9) hv106 dX3_init_129 ?_
        refine lv_iconst (v := (0 : Int32)) hx hb dX3_init_132 (by decide) ?_
        refine lv_ldc (v := (65535 : Int32)) hx hb hown hw31 dX3_init_133 ?_
        obtain ⟨n107, f108, hm110, hv111, h⟩ := h
        replace h := h _ rfl
        refine k_iast hx hb hK hR hS hm110 hv111 dX3_init_135 (fun H locs hR hS => ?_)
        obtain ⟨hwc, hws, h⟩ := h
        refine W.widen (k := mc) (n := ms) hwc hws ?_
        exact k_retv hx hb hr hlocks hR hS h dX3_init_136
      · replace h := hb2 hc
        refine lv_aload_n hx hb dX3_init_106 rfl (lv_at hl 0 rfl) ?_
        obtain ⟨fs112, v113, hm114, hv115, h⟩ := h
        refine k_get (ci := 4) (C := RX3) (T := TX3) (N := 8) hx hb hts in_X3_init_X3 hown hK hR hm114 rfl 3 (by decide) hw11 (fun _ h9 => h9) hv115 dX3_init_107 ?_
        refine lv_iload_n hx hb dX3_init_110 rfl (lv_at hl 1 rfl) ?_
        obtain ⟨hn118, hn119, h⟩ := h
        refine k_new (ci := 3) (fs := [.null, .null, .null, .null, .int 0, .null, .int 0]) (C := RX2) (T := TX2) (N := 7) hx hb hts in_X3_init_X2 tyX2 tyX2_ok hown hw4 hw5 hw6 hK hR hS hA rfl (fun j hj => by rcases (show j = 0 ∨ j = 1 ∨ j = 2 ∨ j = 3 ∨ j = 4 ∨ j = 5 ∨ j = 6 by omega) with rfl | rfl | rfl | rfl | rfl | rfl | rfl <;> rfl) hn118 hn119 dX3_init_111 (fun q116 H hq hR hS => ?_)
        replace h := h q116 _ hq rfl
        refine lv_dup hx hb dX3_init_114 rfl ?_
        obtain ⟨mc120, ms121, hc125, hc126, h⟩ := h
        refine k_callv (va_runI (As := []) (rest := [.ref q116, .int x1, .ref v113]) ⟨hx, hb, hml, hown, hts⟩ (c_X2_init l G mc120 ms121 _ _ _ q116 h) (cwI 0 hts gX3_init_X2_init rfl rfl rfl hw6 hw7 hw8 rfl (by decide +kernel) ⟨Nat.le_of_ble_eq_true rfl, Nat.le_of_ble_eq_true rfl⟩) (k_preS hR hS hA hE) rfl rfl hl.1 rfl (lv_room (Nat.le_of_ble_eq_true rfl)) dX3_init_115 ⟨hc125, hc126⟩) hR hS hA (fun M123 H locs h hR hS => ?_)
        obtain ⟨n127, f128, fs132, hm130, hq133, hv131, h⟩ := h
        replace h := h _ rfl
        refine k_ast2 hx hb hK hR hS hm130 hq133 hv131 dX3_init_118 (fun H locs hR hS => ?_)
        refine lv_iinc (v := (x1 + (1 : Int32))) (lv' := [(1, .int (x1 + (1 : Int32))), (0, .ref x0)]) hx hb dX3_init_119 hl (k := 1) rfl rfl (by decide) rfl (fun ls hl => ?_)
        refine lv_goto (tgt := 101) hx hb dX3_init_122 (by decide) ?_
        exact ih _ _ _ _ _ _ _ _ h (lv_sub hl [1, 0] rfl) hR hS
  have L74 : ∀ (n : Nat), ∀ (x0 : Nat) (x1 : Int32) (kc : Nat) (ks : Nat) (M : k_M) (H : Heap) (locs : List Loc) (ls : Array Slot), wp_X3_init_L74 G mc ms post n x0 x1 kc ks M → lv_has ls 2 [(0, .ref x0), (1, .int x1)] → kR G M (kA M0 s.heap.size) H → va_S (kA M0 s.heap.size) s.heap H locs → W p l e (headSpec wsX3_init ({ frames := 3, cells := mc, slots := ms, locals := 53 })).room s m ([.ref p0] : List Value).toArray below meth c H locs kc ks (MQ below (va_Qv post (kB G M0 s.heap.size) (kA M0 s.heap.size)) ([.ref p0] : List Value).toArray s mc ms (kA M0 s.heap.size)) (F0 m 74 ls []) := by
    intro n
    induction n with
    | zero =>
      intro  x0 x1 kc ks M H locs ls h
      exact False.elim h
    | succ n ih =>
      intro  x0 x1 kc ks M H locs ls h hl hR hS
      refine lv_iload_n hx hb dX3_init_74 rfl (lv_at hl 1 rfl) ?_
      refine lv_bipush (v := (6 : Int32)) hx hb dX3_init_75 (by decide) ?_
      obtain ⟨ha, hb2⟩ := h
      refine lv_icmp_ge (tgt := 99) hx hb dX3_init_77 (by decide) (fun hc => ?_) (fun hc => ?_)
      · replace h := ha hc
        refine lv_iconst (v := (0 : Int32)) hx hb dX3_init_99 (by decide) ?_
        refine lv_istore_n (lv' := [(1, .int (0 : Int32)), (0, .ref x0)]) hx hb dX3_init_100 rfl hl (by decide) rfl (fun ls hl => ?_)
        obtain ⟨k98, h⟩ := h
        exact L101 k98 _ _ _ _ _ _ _ _ h (lv_sub hl [1, 0] rfl) hR hS
      · replace h := hb2 hc
        refine lv_aload_n hx hb dX3_init_80 rfl (lv_at hl 0 rfl) ?_
        obtain ⟨fs134, v135, hm136, hv137, h⟩ := h
        refine k_get (ci := 4) (C := RX3) (T := TX3) (N := 8) hx hb hts in_X3_init_X3 hown hK hR hm136 rfl 1 (by decide) hw10 (fun _ h9 => h9) hv137 dX3_init_81 ?_
        refine lv_iload_n hx hb dX3_init_84 rfl (lv_at hl 1 rfl) ?_
        obtain ⟨hn140, hn141, h⟩ := h
        refine k_new (ci := 3) (fs := [.null, .null, .null, .null, .int 0, .null, .int 0]) (C := RX2) (T := TX2) (N := 7) hx hb hts in_X3_init_X2 tyX2 tyX2_ok hown hw4 hw5 hw6 hK hR hS hA rfl (fun j hj => by rcases (show j = 0 ∨ j = 1 ∨ j = 2 ∨ j = 3 ∨ j = 4 ∨ j = 5 ∨ j = 6 by omega) with rfl | rfl | rfl | rfl | rfl | rfl | rfl <;> rfl) hn140 hn141 dX3_init_85 (fun q138 H hq hR hS => ?_)
        replace h := h q138 _ hq rfl
        refine lv_dup hx hb dX3_init_88 rfl ?_
        obtain ⟨mc142, ms143, hc147, hc148, h⟩ := h
        refine k_callv (va_runI (As := []) (rest := [.ref q138, .int x1, .ref v135]) ⟨hx, hb, hml, hown, hts⟩ (c_X2_init l G mc142 ms143 _ _ _ q138 h) (cwI 0 hts gX3_init_X2_init rfl rfl rfl hw6 hw7 hw8 rfl (by decide +kernel) ⟨Nat.le_of_ble_eq_true rfl, Nat.le_of_ble_eq_true rfl⟩) (k_preS hR hS hA hE) rfl rfl hl.1 rfl (lv_room (Nat.le_of_ble_eq_true rfl)) dX3_init_89 ⟨hc147, hc148⟩) hR hS hA (fun M145 H locs h hR hS => ?_)
        obtain ⟨n149, f150, fs154, hm152, hq155, hv153, h⟩ := h
        replace h := h _ rfl
        refine k_ast2 hx hb hK hR hS hm152 hq155 hv153 dX3_init_92 (fun H locs hR hS => ?_)
        refine lv_iinc (v := (x1 + (1 : Int32))) (lv' := [(1, .int (x1 + (1 : Int32))), (0, .ref x0)]) hx hb dX3_init_93 hl (k := 1) rfl rfl (by decide) rfl (fun ls hl => ?_)
        refine lv_goto (tgt := 74) hx hb dX3_init_96 (by decide) ?_
        exact ih _ _ _ _ _ _ _ _ h (lv_sub hl [1, 0] rfl) hR hS
  have hl := lv_entry ([.ref p0]) (n := 2) (Nat.le_of_ble_eq_true rfl)
  rw [lg_entry_eq]
  generalize (lg_sl ([.ref p0]) ++ List.replicate (2 - (lg_sl ([.ref p0])).length) Slot.unset).toArray = ls at hl ⊢
  have hl : lv_has ls 2 [(0, .ref p0)] := hl
  have hR0 := hR
  refine lv_aload_n hx hb dX3_init_0 rfl (lv_at hl 0 rfl) ?_
  refine W.objInit hx hb hown hw1 hw2 hw3 rfl (by rw [hml]; exact hl.1) rfl dX3_init_1 (Nat.le_of_ble_eq_true rfl) (Nat.le_of_ble_eq_true rfl) ?_
  refine W.eq (g2 := F0 m 4 ls []) rfl ?_
  refine lv_aload_n hx hb dX3_init_4 rfl (lv_at hl 0 rfl) ?_
  obtain ⟨hn3, hn4, h⟩ := h
  refine k_new (ci := 3) (fs := [.null, .null, .null, .null, .int 0, .null, .int 0]) (C := RX2) (T := TX2) (N := 7) hx hb hts in_X3_init_X2 tyX2 tyX2_ok hown hw4 hw5 hw6 hK hR hS hA rfl (fun j hj => by rcases (show j = 0 ∨ j = 1 ∨ j = 2 ∨ j = 3 ∨ j = 4 ∨ j = 5 ∨ j = 6 by omega) with rfl | rfl | rfl | rfl | rfl | rfl | rfl <;> rfl) hn3 hn4 dX3_init_5 (fun q1 H hq hR hS => ?_)
  replace h := h q1 _ hq rfl
  refine lv_dup hx hb dX3_init_8 rfl ?_
  obtain ⟨mc5, ms6, hc10, hc11, h⟩ := h
  refine k_callv (va_runI (As := []) (rest := [.ref q1, .ref p0]) ⟨hx, hb, hml, hown, hts⟩ (c_X2_init l G mc5 ms6 _ _ _ q1 h) (cwI 0 hts gX3_init_X2_init rfl rfl rfl hw6 hw7 hw8 rfl (by decide +kernel) ⟨Nat.le_of_ble_eq_true rfl, Nat.le_of_ble_eq_true rfl⟩) (k_preS hR hS hA hE) rfl rfl hl.1 rfl (lv_room (Nat.le_of_ble_eq_true rfl)) dX3_init_9 ⟨hc10, hc11⟩) hR hS hA (fun M8 H locs h hR hS => ?_)
  obtain ⟨fs12, hm14, hk15, h⟩ := h
  replace h := h _ rfl
  refine k_putF (ci := 4) (v := .ref q1) (ty := .object "ForkedStamps$State") (C := RX3) (T := TX3) (N := 8) hx hb hts in_X3_init_X3 tyX3 tyX3_ok nmX3 hown hK hR hS hm14 rfl 0 (by decide) hw9 (fun _ h9 => h9) rfl hin0 rfl (by decide +kernel) rfl rfl hk15 dX3_init_12 (fun H locs hR hS => ?_)
  refine lv_aload_n hx hb dX3_init_15 rfl (lv_at hl 0 rfl) ?_
  refine lv_bipush (v := (6 : Int32)) hx hb dX3_init_16 (by decide) ?_
  obtain ⟨N16, hn19, hn20, hn21, hn22, hn23, h⟩ := h
  refine k_newq hx hb hown hw4 hE.2.2.2.2.2.2.2 5 rfl hK hR hS hA hn19 hn20 hn21 hn22 hn23 dX3_init_18 (fun q17 H hq hR hS => ?_)
  replace h := h q17 _ hq rfl
  obtain ⟨fs24, hm26, hk27, h⟩ := h
  replace h := h _ rfl
  refine k_putF (ci := 4) (v := .ref q17) (ty := .array (.object "ForkedStamps$State")) (C := RX3) (T := TX3) (N := 8) hx hb hts in_X3_init_X3 tyX3 tyX3_ok nmX3 hown hK hR hS hm26 rfl 1 (by decide) hw10 (fun _ h9 => h9) rfl hin0 rfl (by decide +kernel) rfl rfl hk27 dX3_init_21 (fun H locs hR hS => ?_)
  refine lv_aload_n hx hb dX3_init_24 rfl (lv_at hl 0 rfl) ?_
  refine lv_iconst (v := (2 : Int32)) hx hb dX3_init_25 (by decide) ?_
  obtain ⟨N28, hn31, hn32, hn33, hn34, hn35, h⟩ := h
  refine k_newq hx hb hown hw4 hE.2.2.2.2.2.2.2 5 rfl hK hR hS hA hn31 hn32 hn33 hn34 hn35 dX3_init_26 (fun q29 H hq hR hS => ?_)
  replace h := h q29 _ hq rfl
  obtain ⟨fs36, hm38, hk39, h⟩ := h
  replace h := h _ rfl
  refine k_putF (ci := 4) (v := .ref q29) (ty := .array (.object "ForkedStamps$State")) (C := RX3) (T := TX3) (N := 8) hx hb hts in_X3_init_X3 tyX3 tyX3_ok nmX3 hown hK hR hS hm38 rfl 3 (by decide) hw11 (fun _ h9 => h9) rfl hin0 rfl (by decide +kernel) rfl rfl hk39 dX3_init_29 (fun H locs hR hS => ?_)
  refine lv_aload_n hx hb dX3_init_32 rfl (lv_at hl 0 rfl) ?_
  refine lv_iconst (v := (2 : Int32)) hx hb dX3_init_33 (by decide) ?_
  obtain ⟨N40, hn43, hn44, hn45, hn46, hn47, h⟩ := h
  refine k_newa (atype := .boolean) (ty := .boolean) (a0 := (N40, .inl (fun _ => 0))) hx hb hw12 rfl 2 rfl hK hR hS hA (fun _ => rfl) hn43 hn44 hn45 hn46 hn47 dX3_init_34 (fun q41 H hq hR hS => ?_)
  replace h := h q41 _ hq rfl
  obtain ⟨fs48, hm50, hk51, h⟩ := h
  replace h := h _ rfl
  refine k_putF (ci := 4) (v := .ref q41) (ty := .array .boolean) (C := RX3) (T := TX3) (N := 8) hx hb hts in_X3_init_X3 tyX3 tyX3_ok nmX3 hown hK hR hS hm50 rfl 4 (by decide) hw13 (fun _ h9 => h9) rfl hin0 rfl (by decide +kernel) rfl rfl hk51 dX3_init_36 (fun H locs hR hS => ?_)
  refine lv_aload_n hx hb dX3_init_39 rfl (lv_at hl 0 rfl) ?_
  obtain ⟨hn54, hn55, h⟩ := h
  refine k_new (ci := 1) (fs := [.null, .null, .int 0, .int 0, .int 0, .int 0, .int 0]) (C := RX0) (T := TX0) (N := 7) hx hb hts in_X3_init_X0 tyX0 tyX0_ok hown hw14 hw15 hw16 hK hR hS hA rfl (fun j hj => by rcases (show j = 0 ∨ j = 1 ∨ j = 2 ∨ j = 3 ∨ j = 4 ∨ j = 5 ∨ j = 6 by omega) with rfl | rfl | rfl | rfl | rfl | rfl | rfl <;> rfl) hn54 hn55 dX3_init_40 (fun q52 H hq hR hS => ?_)
  replace h := h q52 _ hq rfl
  refine lv_dup hx hb dX3_init_43 rfl ?_
  obtain ⟨mc56, ms57, hc61, hc62, h⟩ := h
  refine k_callv (va_runIN (As := []) (rest := [.ref q52, .ref p0]) ⟨hx, hb, hml, hown, hts⟩ (c_X0_init l G mc56 ms57 _ _ _ q52 h) ⟨va_cnB 0 hts gX3_init_X0_init_n29 rfl rfl rfl hE.2.2.2.1 hw16 (by decide +kernel) ⟨Nat.le_of_ble_eq_true rfl, Nat.le_of_ble_eq_true rfl⟩, rfl, hw17⟩ (k_preS hR hS hA hE) rfl rfl hl.1 rfl (lv_room (Nat.le_of_ble_eq_true rfl)) dX3_init_44 ⟨hc61, hc62⟩) hR hS hA (fun M59 H locs h hR hS => ?_)
  obtain ⟨fs63, hm65, hk66, h⟩ := h
  replace h := h _ rfl
  refine k_putF (ci := 4) (v := .ref q52) (ty := .object "ForkedStamps$Pad") (C := RX3) (T := TX3) (N := 8) hx hb hts in_X3_init_X3 tyX3 tyX3_ok nmX3 hown hK hR hS hm65 rfl 5 (by decide) hw18 (fun _ h9 => h9) rfl hin0 rfl (by decide +kernel) rfl rfl hk66 dX3_init_47 (fun H locs hR hS => ?_)
  refine lv_aload_n hx hb dX3_init_50 rfl (lv_at hl 0 rfl) ?_
  obtain ⟨hn69, hn70, h⟩ := h
  refine k_new (ci := 2) (fs := [.null, .long 0, .long 0]) (C := RX1) (T := TX1) (N := 3) hx hb hts in_X3_init_X1 tyX1 tyX1_ok hown hw19 hw20 hw21 hK hR hS hA rfl (fun j hj => by rcases (show j = 0 ∨ j = 1 ∨ j = 2 by omega) with rfl | rfl | rfl <;> rfl) hn69 hn70 dX3_init_51 (fun q67 H hq hR hS => ?_)
  replace h := h q67 _ hq rfl
  refine lv_dup hx hb dX3_init_54 rfl ?_
  obtain ⟨mc71, ms72, hc76, hc77, h⟩ := h
  refine k_callv (va_runIN (As := []) (rest := [.ref q67, .ref p0]) ⟨hx, hb, hml, hown, hts⟩ (c_X1_init l G mc71 ms72 _ _ _ q67 h) ⟨va_cnB 0 hts gX3_init_X1_init_n36 rfl rfl rfl hE.2.2.2.2.2.1 hw21 (by decide +kernel) ⟨Nat.le_of_ble_eq_true rfl, Nat.le_of_ble_eq_true rfl⟩, rfl, hw22⟩ (k_preS hR hS hA hE) rfl rfl hl.1 rfl (lv_room (Nat.le_of_ble_eq_true rfl)) dX3_init_55 ⟨hc76, hc77⟩) hR hS hA (fun M74 H locs h hR hS => ?_)
  obtain ⟨fs78, hm80, hk81, h⟩ := h
  replace h := h _ rfl
  refine k_putF (ci := 4) (v := .ref q67) (ty := .object "ForkedStamps$Stamp") (C := RX3) (T := TX3) (N := 8) hx hb hts in_X3_init_X3 tyX3 tyX3_ok nmX3 hown hK hR hS hm80 rfl 6 (by decide) hw23 (fun _ h9 => h9) rfl hin0 rfl (by decide +kernel) rfl rfl hk81 dX3_init_58 (fun H locs hR hS => ?_)
  refine lv_aload_n hx hb dX3_init_61 rfl (lv_at hl 0 rfl) ?_
  obtain ⟨hn84, hn85, h⟩ := h
  refine k_new (ci := 0) (fs := [.null, .int 0, .int 0, .int 0]) (C := RJ4) (T := TJ4) (N := 4) hx hb hts in_X3_init_J4 tyJ4 tyJ4_ok hown hw24 hw25 hw26 hK hR hS hA rfl (fun j hj => by rcases (show j = 0 ∨ j = 1 ∨ j = 2 ∨ j = 3 by omega) with rfl | rfl | rfl | rfl <;> rfl) hn84 hn85 dX3_init_62 (fun q82 H hq hR hS => ?_)
  replace h := h q82 _ hq rfl
  refine lv_dup hx hb dX3_init_65 rfl ?_
  obtain ⟨mc86, ms87, hc91, hc92, h⟩ := h
  refine k_callv (va_runI (As := []) (rest := [.ref q82, .ref p0]) ⟨hx, hb, hml, hown, hts⟩ (c_J4_init_da8c8 l G mc86 ms87 _ _ _ q82 h) (cwI 0 hts gX3_init_J4_init_da8c8 rfl rfl rfl hw26 hw27 hw28 rfl (by decide +kernel) ⟨Nat.le_of_ble_eq_true rfl, Nat.le_of_ble_eq_true rfl⟩) (k_preS hR hS hA hE) rfl rfl hl.1 rfl (lv_room (Nat.le_of_ble_eq_true rfl)) dX3_init_66 ⟨hc91, hc92⟩) hR hS hA (fun M89 H locs h hR hS => ?_)
  obtain ⟨fs93, hm95, hk96, h⟩ := h
  replace h := h _ rfl
  refine k_putF (ci := 4) (v := .ref q82) (ty := .object "java/lang/StringBuilder") (C := RX3) (T := TX3) (N := 8) hx hb hts in_X3_init_X3 tyX3 tyX3_ok nmX3 hown hK hR hS hm95 rfl 7 (by decide) hw29 (fun _ h9 => h9) rfl hin0 rfl (by decide +kernel) rfl rfl hk96 dX3_init_69 (fun H locs hR hS => ?_)
  refine lv_iconst (v := (0 : Int32)) hx hb dX3_init_72 (by decide) ?_
  refine lv_istore_n (lv' := [(1, .int (0 : Int32)), (0, .ref p0)]) hx hb dX3_init_73 rfl hl (by decide) rfl (fun ls hl => ?_)
  obtain ⟨k97, h⟩ := h
  exact L74 k97 _ _ _ _ _ _ _ _ h (lv_sub hl [1, 0] rfl) hR hS
