def wp_X0_init (G : k_G) (mc ms : Nat) (post : k_M → Prop) (p0 : Nat) (M0 : k_M) : Prop :=
  (∃ N1 : Nat, ¬ (64 : Int32) < 0 ∧ ((64 : Int32)).toNatClampNeg = N1 ∧ N1 * 2 ≤ 536870912 ∧ 0 + 1 ≤ mc ∧ 0 + N1 ≤ ms ∧ ∀ (q2 : Nat) (M3 : k_M), M0 q2 = none → M3 = va_up M0 q2 (some (kC G N1 (fun _ => 0))) →
  (∃ fs9, M3 p0 = some (kO 1 fs9) ∧ 0 < fs9.length ∧ ∀ M10 : k_M, M10 = va_up M3 p0 (some (kO 1 (fs9.set 0 (.ref q2)))) →
  ((0 + 1) + 1 ≤ mc ∧ (0 + N1) + 3 ≤ ms ∧ ∀ (q13 : Nat) (M14 : k_M), M10 q13 = none → M14 = va_up M10 q13 (some (kO 2 [.null, .long 0, .long 0])) →
  (∃ mc17 ms18 : Nat, ((0 + 1) + 1) + mc17 ≤ mc ∧ ((0 + N1) + 3) + ms18 ≤ ms ∧ wp_X1_init G mc17 ms18 (fun M20 =>
  (∃ fs24, M20 p0 = some (kO 1 fs24) ∧ 1 < fs24.length ∧ ∀ M25 : k_M, M25 = va_up M20 p0 (some (kO 1 (fs24.set 1 (.ref q13)))) →
  (((0 + 1) + 1) + mc17) ≤ mc ∧ (((0 + N1) + 3) + ms18) ≤ ms ∧ post M25)) q13 M14))))
theorem in_X0_init_X0 : ∀ w ∈ wsX00, w ∈ wsX0_init := by decide +kernel
theorem in_X0_init_X1 : ∀ w ∈ wsX10, w ∈ wsX0_init := by decide +kernel
set_option maxHeartbeats 4000000 in
set_option maxRecDepth 100000 in
theorem c_X0_init (l : Launch) (G : k_G) (mc ms : Nat) (M0 : k_M) (sz : Nat) (post : k_M → Prop) (p0 : Nat) (h : wp_X0_init G mc ms post p0 M0) : Met l yX0_init wsX0_init ({ frames := 2, cells := mc, slots := ms, locals := 32 }) (va_Pc [.ref p0] (kPre G M0 sz)) (va_Qv post (kB G M0 sz) (kA M0 sz)) mc ms (kA M0 sz) := by
  refine Met.ofW (cc := cX0_init) (maxL := 1) (ret := none) (by decide) rfl ?_
  intro p e s m args below meth c s₁ B hml hv
  obtain ⟨rfl, hsz, hR, hE⟩ := hv
  have hx := B.exec
  have hb := B.bytes
  have hr := B.returns
  have hts := atoms_spec (ws := wsX0_init) B.pre
  have hown : s.vm.findClass RX0 = some m.cls := findClass_of_methodNamed B.named
  have hlocks := B.notSynchronized
  have hin0 : meth.name = "<init>" := (name_of_methodNamed B.named B.method).1
  subst hsz
  have hK := hE.1
  have hA : ∀ q, s.heap.size ≤ q → kA M0 s.heap.size q := kA.new
  have hS : va_S (kA M0 s.heap.size) s.heap s.heap [] := va_S.rf
  have hw1 := hts (.methodLink RX0 3 objectInit) (by decide +kernel)
  have hw2 := hts (.instanceMethod objectInit) (by decide +kernel)
  have hw3 := hts (.code objectInit ⟨#[0xb1]⟩ 1 none) (by decide +kernel)
  have hw4 := hts (.arrayClass .char) (by decide +kernel)
  have hw5 := hts (.fieldLink RX0 9 "ForkedStamps$Pad" "characters" "[C") (by decide +kernel)
  have hw6 := hts (.classLink RX0 15 RX1) (by decide +kernel)
  have hw7 := hts (.instantiable RX1 3) (by decide +kernel)
  have hw8 := hts (.initialized RX1) (by decide +kernel)
  have hw9 := hts (.instanceMethod yX1_init) (by decide +kernel)
  have hw10 := hts (.fieldLink RX0 18 "ForkedStamps$Pad" "stamp" "LForkedStamps$Stamp;") (by decide +kernel)
  have hl := lv_entry ([.ref p0]) (n := 1) (Nat.le_of_ble_eq_true rfl)
  rw [lg_entry_eq]
  generalize (lg_sl ([.ref p0]) ++ List.replicate (1 - (lg_sl ([.ref p0])).length) Slot.unset).toArray = ls at hl ⊢
  have hl : lv_has ls 1 [(0, .ref p0)] := hl
  have hR0 := hR
  refine lv_aload_n hx hb dX0_init_0 rfl (lv_at hl 0 rfl) ?_
  refine W.objInit hx hb hown hw1 hw2 hw3 rfl (by rw [hml]; exact hl.1) rfl dX0_init_1 (Nat.le_of_ble_eq_true rfl) (Nat.le_of_ble_eq_true rfl) ?_
  refine W.eq (g2 := F0 m 4 ls []) rfl ?_
  refine lv_aload_n hx hb dX0_init_4 rfl (lv_at hl 0 rfl) ?_
  refine lv_bipush (v := (64 : Int32)) hx hb dX0_init_5 (by decide) ?_
  obtain ⟨N1, hn4, hn5, hn6, hn7, hn8, h⟩ := h
  refine k_newa (atype := .char) (ty := .char) (a0 := (N1, .inl (fun _ => 0))) hx hb hw4 rfl 1 rfl hK hR hS hA (fun _ => rfl) hn4 hn5 hn6 hn7 hn8 dX0_init_7 (fun q2 H hq hR hS => ?_)
  replace h := h q2 _ hq rfl
  obtain ⟨fs9, hm11, hk12, h⟩ := h
  replace h := h _ rfl
  refine k_putF (ci := 1) (v := .ref q2) (ty := .array .char) (C := RX0) (T := TX0) (N := 7) hx hb hts in_X0_init_X0 tyX0 tyX0_ok nmX0 hown hK hR hS hm11 rfl 0 (by decide) hw5 (fun _ h9 => h9) rfl hin0 rfl (by decide +kernel) rfl rfl hk12 dX0_init_9 (fun H locs hR hS => ?_)
  refine lv_aload_n hx hb dX0_init_12 rfl (lv_at hl 0 rfl) ?_
  obtain ⟨hn15, hn16, h⟩ := h
  refine k_new (ci := 2) (fs := [.null, .long 0, .long 0]) (C := RX1) (T := TX1) (N := 3) hx hb hts in_X0_init_X1 tyX1 tyX1_ok hown hw6 hw7 hw8 hK hR hS hA rfl (fun j hj => by rcases (show j = 0 ∨ j = 1 ∨ j = 2 by omega) with rfl | rfl | rfl <;> rfl) hn15 hn16 dX0_init_13 (fun q13 H hq hR hS => ?_)
  replace h := h q13 _ hq rfl
  refine lv_dup hx hb dX0_init_16 rfl ?_
  obtain ⟨mc17, ms18, hc22, hc23, h⟩ := h
  refine k_callv (va_runIN (As := []) (rest := [.ref q13, .ref p0]) ⟨hx, hb, hml, hown, hts⟩ (c_X1_init l G mc17 ms18 _ _ _ q13 h) ⟨va_cnB 0 hts gX0_init_X1_init_n17 rfl rfl rfl hE.2.2.2.2.1 hw8 (by decide +kernel) ⟨Nat.le_of_ble_eq_true rfl, Nat.le_of_ble_eq_true rfl⟩, rfl, hw9⟩ (k_preS hR hS hA hE) rfl rfl hl.1 rfl (lv_room (Nat.le_of_ble_eq_true rfl)) dX0_init_17 ⟨hc22, hc23⟩) hR hS hA (fun M20 H locs h hR hS => ?_)
  obtain ⟨fs24, hm26, hk27, h⟩ := h
  replace h := h _ rfl
  refine k_putF (ci := 1) (v := .ref q13) (ty := .object "ForkedStamps$Stamp") (C := RX0) (T := TX0) (N := 7) hx hb hts in_X0_init_X0 tyX0 tyX0_ok nmX0 hown hK hR hS hm26 rfl 1 (by decide) hw10 (fun _ h9 => h9) rfl hin0 rfl (by decide +kernel) rfl rfl hk27 dX0_init_20 (fun H locs hR hS => ?_)
  obtain ⟨hwc, hws, h⟩ := h
  refine W.widen (k := mc) (n := ms) hwc hws ?_
  exact k_retv hx hb hr hlocks hR hS h dX0_init_23

def wp_X0_append_L5 (G : k_G) (post : k_M → Prop) : Nat → Nat → Int64 → Int32 → k_M → Prop
  | 0 => fun _ _ _ _ => False
  | n + 1 => fun x0 x1 x4 M =>
  ((x4 < 0 →
      post M) ∧
      (¬ x4 < 0 →
      (∃ fs2 v3, M x0 = some (kO 1 fs2) ∧ fs2[2]? = some (.int v3) ∧
        (((64 : Int32) ≤ v3 →
        post M) ∧
        (¬ (64 : Int32) ≤ v3 →
        (∃ fs6 v7, M x0 = some (kO 1 fs6) ∧ fs6[0]? = some (.ref v7) ∧
          (∃ fs10 v11, M x0 = some (kO 1 fs10) ∧ fs10[2]? = some (.int v11) ∧
          (∃ n14 f15, M v7 = some (kC G n14 f15) ∧ vp_in v11 n14 ∧ ∀ M16 : k_M, M16 = va_up M v7 (some (kC G n14 (upd f15 (v11).toNatClampNeg (vp_nar .char ((((((x1).toUInt64 >>> ((((8 : Int32) * x4)).toInt64.toUInt64 &&& Int64.toUInt64 63)).toInt64 &&& (255 : Int64))).toInt32).toUInt32 % 65536).toInt32)))) →
          (∃ fs19 v20, M16 x0 = some (kO 1 fs19) ∧ fs19[2]? = some (.int v20) ∧
          (∃ fs23, M16 x0 = some (kO 1 fs23) ∧ 2 < fs23.length ∧ ∀ M24 : k_M, M24 = va_up M16 x0 (some (kO 1 (fs23.set 2 (.int (v20 + (1 : Int32)))))) →
          (wp_X0_append_L5 G post n) x0 x1 (x4 + (-1 : Int32)) M24))))))))))
def wp_X0_append (G : k_G) (post : k_M → Prop) (p0 : Nat) (p1 : Int64) (p3 : Int32) (M0 : k_M) : Prop :=
  ∃ k1, wp_X0_append_L5 G post k1 p0 p1 (p3 - (1 : Int32)) M0
theorem in_X0_append_X0 : ∀ w ∈ wsX00, w ∈ wsX0_append := by decide +kernel
set_option maxHeartbeats 4000000 in
set_option maxRecDepth 100000 in
theorem c_X0_append (l : Launch) (G : k_G) (M0 : k_M) (sz : Nat) (post : k_M → Prop) (p0 : Nat) (p1 : Int64) (p3 : Int32) (h : wp_X0_append G post p0 p1 p3 M0) : Met l yX0_append wsX0_append ({ frames := 0, cells := 0, slots := 0, locals := 0 }) (va_Pc [.ref p0, .long p1, .int p3] (kPre G M0 sz)) (va_Qv post (kB G M0 sz) (kA M0 sz)) 0 0 (kA M0 sz) := by
  refine Met.ofW (cc := cX0_append) (maxL := 5) (ret := none) (by decide) rfl ?_
  intro p e s m args below meth c s₁ B hml hv
  obtain ⟨rfl, hsz, hR, hE⟩ := hv
  have hx := B.exec
  have hb := B.bytes
  have hr := B.returns
  have hts := atoms_spec (ws := wsX0_append) B.pre
  have hown : s.vm.findClass RX0 = some m.cls := findClass_of_methodNamed B.named
  have hlocks := B.notSynchronized
  subst hsz
  have hK := hE.1
  have hA : ∀ q, s.heap.size ≤ q → kA M0 s.heap.size q := kA.new
  have hS : va_S (kA M0 s.heap.size) s.heap s.heap [] := va_S.rf
  have hw1 := hts (.fieldLink RX0 22 "ForkedStamps$Pad" "length" "I") (by decide +kernel)
  have hw2 := hts (.fieldLink RX0 9 "ForkedStamps$Pad" "characters" "[C") (by decide +kernel)
  have hw3 := hts (.constantLong RX0 26 (255)) (by decide +kernel)
  have L5 : ∀ (n : Nat), ∀ (x0 : Nat) (x1 : Int64) (x4 : Int32) (M : k_M) (H : Heap) (locs : List Loc) (ls : Array Slot), wp_X0_append_L5 G post n x0 x1 x4 M → lv_has ls 5 [(0, .ref x0), (1, .long x1), (4, .int x4)] → kR G M (kA M0 s.heap.size) H → va_S (kA M0 s.heap.size) s.heap H locs → W p l e (headSpec wsX0_append ({ frames := 0, cells := 0, slots := 0, locals := 0 })).room s m ([.ref p0, .long p1, .int p3] : List Value).toArray below meth c H locs 0 0 (MQ below (va_Qv post (kB G M0 s.heap.size) (kA M0 s.heap.size)) ([.ref p0, .long p1, .int p3] : List Value).toArray s 0 0 (kA M0 s.heap.size)) (F0 m 5 ls []) := by
    intro n
    induction n with
    | zero =>
      intro  x0 x1 x4 M H locs ls h
      exact False.elim h
    | succ n ih =>
      intro  x0 x1 x4 M H locs ls h hl hR hS
      refine lv_iload hx hb dX0_append_5 (lv_at hl 2 rfl) ?_
      obtain ⟨ha, hb2⟩ := h
      refine lv_if_lt (tgt := 57) hx hb dX0_append_7 (by decide) (fun hc => ?_) (fun hc => ?_)
      · replace h := ha hc
        exact k_retv hx hb hr hlocks hR hS h dX0_append_57
      · replace h := hb2 hc
        refine lv_aload_n hx hb dX0_append_10 rfl (lv_at hl 0 rfl) ?_
        obtain ⟨fs2, v3, hm4, hv5, h⟩ := h
        refine k_get (ci := 1) (C := RX0) (T := TX0) (N := 7) hx hb hts in_X0_append_X0 hown hK hR hm4 rfl 2 (by decide) hw1 (fun _ h9 => h9) hv5 dX0_append_11 ?_
        refine lv_bipush (v := (64 : Int32)) hx hb dX0_append_14 (by decide) ?_
        obtain ⟨ha, hb2⟩ := h
        refine lv_icmp_ge (tgt := 57) hx hb dX0_append_16 (by decide) (fun hc => ?_) (fun hc => ?_)
        · replace h := ha hc
          exact k_retv hx hb hr hlocks hR hS h dX0_append_57
        · replace h := hb2 hc
          refine lv_aload_n hx hb dX0_append_19 rfl (lv_at hl 0 rfl) ?_
          obtain ⟨fs6, v7, hm8, hv9, h⟩ := h
          refine k_get (ci := 1) (C := RX0) (T := TX0) (N := 7) hx hb hts in_X0_append_X0 hown hK hR hm8 rfl 0 (by decide) hw2 (fun _ h9 => h9) hv9 dX0_append_20 ?_
          refine lv_aload_n hx hb dX0_append_23 rfl (lv_at hl 0 rfl) ?_
          obtain ⟨fs10, v11, hm12, hv13, h⟩ := h
          refine k_get (ci := 1) (C := RX0) (T := TX0) (N := 7) hx hb hts in_X0_append_X0 hown hK hR hm12 rfl 2 (by decide) hw1 (fun _ h9 => h9) hv13 dX0_append_24 ?_
          refine lv_lload_n hx hb dX0_append_27 rfl (lv_at hl 1 rfl) ?_
          refine lv_bipush (v := (8 : Int32)) hx hb dX0_append_28 (by decide) ?_
          refine lv_iload hx hb dX0_append_30 (lv_at hl 2 rfl) ?_
          refine lv_imul hx hb dX0_append_32 ?_
          refine lv_lushr hx hb dX0_append_33 rfl ?_
          refine lv_ldc2 (v := (255 : Int64)) hx hb hown hw3 dX0_append_34 ?_
          refine lv_land hx hb dX0_append_37 ?_
          refine lv_l2i hx hb dX0_append_38 rfl ?_
          refine lv_i2c hx hb dX0_append_39 rfl ?_
          obtain ⟨n14, f15, hm17, hv18, h⟩ := h
          replace h := h _ rfl
          refine k_cast hx hb hK hR hS hm17 hv18 dX0_append_40 (fun H locs hR hS => ?_)
          refine lv_aload_n hx hb dX0_append_41 rfl (lv_at hl 0 rfl) ?_
          refine lv_dup hx hb dX0_append_42 rfl ?_
          obtain ⟨fs19, v20, hm21, hv22, h⟩ := h
          refine k_get (ci := 1) (C := RX0) (T := TX0) (N := 7) hx hb hts in_X0_append_X0 hown hK hR hm21 rfl 2 (by decide) hw1 (fun _ h9 => h9) hv22 dX0_append_43 ?_
          refine lv_iconst (v := (1 : Int32)) hx hb dX0_append_46 (by decide) ?_
          refine lv_iadd hx hb dX0_append_47 ?_
          obtain ⟨fs23, hm25, hk26, h⟩ := h
          replace h := h _ rfl
          refine k_put (ci := 1) (v := .int (v20 + (1 : Int32))) (ty := .int) (C := RX0) (T := TX0) (N := 7) hx hb hts in_X0_append_X0 tyX0 tyX0_ok nmX0 hown hK hR hS hm25 rfl 2 (by decide) hw1 (fun _ h9 => h9) rfl (by decide +kernel) rfl rfl hk26 dX0_append_48 (fun H locs hR hS => ?_)
          refine lv_iinc (v := (x4 + (-1 : Int32))) (lv' := [(4, .int (x4 + (-1 : Int32))), (0, .ref x0), (1, .long x1)]) hx hb dX0_append_51 hl (k := 2) rfl rfl (by decide) rfl (fun ls hl => ?_)
          refine lv_goto (tgt := 5) hx hb dX0_append_54 (by decide) ?_
          exact ih _ _ _ _ _ _ _ h (lv_sub hl [1, 2, 0] rfl) hR hS
  have hl := lv_entry ([.ref p0, .long p1, .int p3]) (n := 5) (Nat.le_of_ble_eq_true rfl)
  rw [lg_entry_eq]
  generalize (lg_sl ([.ref p0, .long p1, .int p3]) ++ List.replicate (5 - (lg_sl ([.ref p0, .long p1, .int p3])).length) Slot.unset).toArray = ls at hl ⊢
  have hl : lv_has ls 5 [(0, .ref p0), (1, .long p1), (3, .int p3)] := hl
  have hR0 := hR
  refine lv_iload_n hx hb dX0_append_0 rfl (lv_at hl 2 rfl) ?_
  refine lv_iconst (v := (1 : Int32)) hx hb dX0_append_1 (by decide) ?_
  refine lv_isub hx hb dX0_append_2 ?_
  refine lv_istore (lv' := [(4, .int (p3 - (1 : Int32))), (0, .ref p0), (1, .long p1), (3, .int p3)]) hx hb dX0_append_3 hl (by decide) rfl (fun ls hl => ?_)
  obtain ⟨k1, h⟩ := h
  exact L5 k1 _ _ _ _ _ _ _ h (lv_sub hl [1, 2, 0] rfl) hR hS

def wp_X0_fillRow_L5 (G : k_G) (post : k_M → Prop) : Nat → Nat → Int32 → k_M → Prop
  | 0 => fun _ _ _ => False
  | n + 1 => fun x0 x1 M =>
  (∃ fs6 v7, M x0 = some (kO 1 fs6) ∧ fs6[3]? = some (.int v7) ∧
      (∃ fs10 v11, M x0 = some (kO 1 fs10) ∧ fs10[4]? = some (.int v11) ∧
      (((v7 + v11) ≤ x1 →
      post M) ∧
      (¬ (v7 + v11) ≤ x1 →
      (((16 : Int32) ≤ x1 →
        post M) ∧
        (¬ (16 : Int32) ≤ x1 →
        (∃ fs14 v15, M x0 = some (kO 1 fs14) ∧ fs14[1]? = some (.ref v15) ∧
          (∃ fs18 v19, M v15 = some (kO 2 fs18) ∧ fs18[0]? = some (.ref v19) ∧
          (∃ fs22 v23, M x0 = some (kO 1 fs22) ∧ fs22[6]? = some (.int v23) ∧
          (∃ n26 f27, M v19 = some (kI G n26 f27) ∧ vp_in x1 n26 ∧ ∀ M28 : k_M, M28 = va_up M v19 (some (kI G n26 (upd f27 (x1).toNatClampNeg v23))) →
          (wp_X0_fillRow_L5 G post n) x0 (x1 + (1 : Int32)) M28))))))))))
def wp_X0_fillRow (G : k_G) (post : k_M → Prop) (p0 : Nat) (M0 : k_M) : Prop :=
  (∃ fs1 v2, M0 p0 = some (kO 1 fs1) ∧ fs1[3]? = some (.int v2) ∧
  ∃ k5, wp_X0_fillRow_L5 G post k5 p0 v2 M0)
theorem in_X0_fillRow_X0 : ∀ w ∈ wsX00, w ∈ wsX0_fillRow := by decide +kernel
theorem in_X0_fillRow_X1 : ∀ w ∈ wsX10, w ∈ wsX0_fillRow := by decide +kernel
set_option maxHeartbeats 4000000 in
set_option maxRecDepth 100000 in
theorem c_X0_fillRow (l : Launch) (G : k_G) (M0 : k_M) (sz : Nat) (post : k_M → Prop) (p0 : Nat) (h : wp_X0_fillRow G post p0 M0) : Met l yX0_fillRow wsX0_fillRow ({ frames := 0, cells := 0, slots := 0, locals := 0 }) (va_Pc [.ref p0] (kPre G M0 sz)) (va_Qv post (kB G M0 sz) (kA M0 sz)) 0 0 (kA M0 sz) := by
  refine Met.ofW (cc := cX0_fillRow) (maxL := 2) (ret := none) (by decide) rfl ?_
  intro p e s m args below meth c s₁ B hml hv
  obtain ⟨rfl, hsz, hR, hE⟩ := hv
  have hx := B.exec
  have hb := B.bytes
  have hr := B.returns
  have hts := atoms_spec (ws := wsX0_fillRow) B.pre
  have hown : s.vm.findClass RX0 = some m.cls := findClass_of_methodNamed B.named
  have hlocks := B.notSynchronized
  subst hsz
  have hK := hE.1
  have hA : ∀ q, s.heap.size ≤ q → kA M0 s.heap.size q := kA.new
  have hS : va_S (kA M0 s.heap.size) s.heap s.heap [] := va_S.rf
  have hw1 := hts (.fieldLink RX0 28 "ForkedStamps$Pad" "first" "I") (by decide +kernel)
  have hw2 := hts (.fieldLink RX0 31 "ForkedStamps$Pad" "size" "I") (by decide +kernel)
  have hw3 := hts (.fieldLink RX0 18 "ForkedStamps$Pad" "stamp" "LForkedStamps$Stamp;") (by decide +kernel)
  have hw4 := hts (.fieldLink RX0 61 "ForkedStamps$Stamp" "heights" "[I") (by decide +kernel)
  have hw5 := hts (.fieldLink RX0 55 "ForkedStamps$Pad" "number" "I") (by decide +kernel)
  have L5 : ∀ (n : Nat), ∀ (x0 : Nat) (x1 : Int32) (M : k_M) (H : Heap) (locs : List Loc) (ls : Array Slot), wp_X0_fillRow_L5 G post n x0 x1 M → lv_has ls 2 [(0, .ref x0), (1, .int x1)] → kR G M (kA M0 s.heap.size) H → va_S (kA M0 s.heap.size) s.heap H locs → W p l e (headSpec wsX0_fillRow ({ frames := 0, cells := 0, slots := 0, locals := 0 })).room s m ([.ref p0] : List Value).toArray below meth c H locs 0 0 (MQ below (va_Qv post (kB G M0 s.heap.size) (kA M0 s.heap.size)) ([.ref p0] : List Value).toArray s 0 0 (kA M0 s.heap.size)) (F0 m 5 ls []) := by
    intro n
    induction n with
    | zero =>
      intro  x0 x1 M H locs ls h
      exact False.elim h
    | succ n ih =>
      intro  x0 x1 M H locs ls h hl hR hS
      refine lv_iload_n hx hb dX0_fillRow_5 rfl (lv_at hl 1 rfl) ?_
      refine lv_aload_n hx hb dX0_fillRow_6 rfl (lv_at hl 0 rfl) ?_
      obtain ⟨fs6, v7, hm8, hv9, h⟩ := h
      refine k_get (ci := 1) (C := RX0) (T := TX0) (N := 7) hx hb hts in_X0_fillRow_X0 hown hK hR hm8 rfl 3 (by decide) hw1 (fun _ h9 => h9) hv9 dX0_fillRow_7 ?_
      refine lv_aload_n hx hb dX0_fillRow_10 rfl (lv_at hl 0 rfl) ?_
      obtain ⟨fs10, v11, hm12, hv13, h⟩ := h
      refine k_get (ci := 1) (C := RX0) (T := TX0) (N := 7) hx hb hts in_X0_fillRow_X0 hown hK hR hm12 rfl 4 (by decide) hw2 (fun _ h9 => h9) hv13 dX0_fillRow_11 ?_
      refine lv_iadd hx hb dX0_fillRow_14 ?_
      obtain ⟨ha, hb2⟩ := h
      refine lv_icmp_ge (tgt := 43) hx hb dX0_fillRow_15 (by decide) (fun hc => ?_) (fun hc => ?_)
      · replace h := ha hc
        exact k_retv hx hb hr hlocks hR hS h dX0_fillRow_43
      · replace h := hb2 hc
        refine lv_iload_n hx hb dX0_fillRow_18 rfl (lv_at hl 1 rfl) ?_
        refine lv_bipush (v := (16 : Int32)) hx hb dX0_fillRow_19 (by decide) ?_
        obtain ⟨ha, hb2⟩ := h
        refine lv_icmp_ge (tgt := 43) hx hb dX0_fillRow_21 (by decide) (fun hc => ?_) (fun hc => ?_)
        · replace h := ha hc
          exact k_retv hx hb hr hlocks hR hS h dX0_fillRow_43
        · replace h := hb2 hc
          refine lv_aload_n hx hb dX0_fillRow_24 rfl (lv_at hl 0 rfl) ?_
          obtain ⟨fs14, v15, hm16, hv17, h⟩ := h
          refine k_get (ci := 1) (C := RX0) (T := TX0) (N := 7) hx hb hts in_X0_fillRow_X0 hown hK hR hm16 rfl 1 (by decide) hw3 (fun _ h9 => h9) hv17 dX0_fillRow_25 ?_
          obtain ⟨fs18, v19, hm20, hv21, h⟩ := h
          refine k_get (ci := 2) (C := RX1) (T := TX1) (N := 3) hx hb hts in_X0_fillRow_X1 hown hK hR hm20 rfl 0 (by decide) hw4 (fun _ h9 => h9) hv21 dX0_fillRow_28 ?_
          refine lv_iload_n hx hb dX0_fillRow_31 rfl (lv_at hl 1 rfl) ?_
          refine lv_aload_n hx hb dX0_fillRow_32 rfl (lv_at hl 0 rfl) ?_
          obtain ⟨fs22, v23, hm24, hv25, h⟩ := h
          refine k_get (ci := 1) (C := RX0) (T := TX0) (N := 7) hx hb hts in_X0_fillRow_X0 hown hK hR hm24 rfl 6 (by decide) hw5 (fun _ h9 => h9) hv25 dX0_fillRow_33 ?_
          obtain ⟨n26, f27, hm29, hv30, h⟩ := h
          replace h := h _ rfl
          refine k_iast hx hb hK hR hS hm29 hv30 dX0_fillRow_36 (fun H locs hR hS => ?_)
          refine lv_iinc (v := (x1 + (1 : Int32))) (lv' := [(1, .int (x1 + (1 : Int32))), (0, .ref x0)]) hx hb dX0_fillRow_37 hl (k := 1) rfl rfl (by decide) rfl (fun ls hl => ?_)
          refine lv_goto (tgt := 5) hx hb dX0_fillRow_40 (by decide) ?_
          exact ih _ _ _ _ _ _ h (lv_sub hl [1, 0] rfl) hR hS
  have hl := lv_entry ([.ref p0]) (n := 2) (Nat.le_of_ble_eq_true rfl)
  rw [lg_entry_eq]
  generalize (lg_sl ([.ref p0]) ++ List.replicate (2 - (lg_sl ([.ref p0])).length) Slot.unset).toArray = ls at hl ⊢
  have hl : lv_has ls 2 [(0, .ref p0)] := hl
  have hR0 := hR
  refine lv_aload_n hx hb dX0_fillRow_0 rfl (lv_at hl 0 rfl) ?_
  obtain ⟨fs1, v2, hm3, hv4, h⟩ := h
  refine k_get (ci := 1) (C := RX0) (T := TX0) (N := 7) hx hb hts in_X0_fillRow_X0 hown hK hR hm3 rfl 3 (by decide) hw1 (fun _ h9 => h9) hv4 dX0_fillRow_1 ?_
  refine lv_istore_n (lv' := [(1, .int v2), (0, .ref p0)]) hx hb dX0_fillRow_4 rfl hl (by decide) rfl (fun ls hl => ?_)
  obtain ⟨k5, h⟩ := h
  exact L5 k5 _ _ _ _ _ _ h (lv_sub hl [1, 0] rfl) hR hS

def wp_X0_acceptsDigit_b46 (G : k_G) (post : Int32 → k_M → Prop) (x0 : Nat) (s0 : Int32) (M : k_M) : Prop :=
  ((s0 ≤ (250 : Int32) →
    (∃ fs13, M x0 = some (kO 1 fs13) ∧ 5 < fs13.length ∧ ∀ M14 : k_M, M14 = va_up M x0 (some (kO 1 (fs13.set 5 (.int (1 : Int32))))) →
      (∃ fs17, M14 x0 = some (kO 1 fs17) ∧ 6 < fs17.length ∧ ∀ M18 : k_M, M18 = va_up M14 x0 (some (kO 1 (fs17.set 6 (.int s0)))) →
      (∃ fs24, M18 x0 = some (kO 1 fs24) ∧ wp_X0_fillRow G (fun M22 =>
      post (1 : Int32) M22) x0 M18)))) ∧
    (¬ s0 ≤ (250 : Int32) →
    post (0 : Int32) M))
def wp_X0_acceptsDigit_b25 (G : k_G) (post : Int32 → k_M → Prop) (x0 : Nat) (x1 : Int32) (M : k_M) : Prop :=
  (∃ fs9 v10, M x0 = some (kO 1 fs9) ∧ fs9[5]? = some (.int v10) ∧
    ((¬ v10 = (1 : Int32) →
    wp_X0_acceptsDigit_b46 G post x0 x1 M) ∧
    (v10 = (1 : Int32) →
    (∃ fs25 v26, M x0 = some (kO 1 fs25) ∧ fs25[6]? = some (.int v26) ∧
      wp_X0_acceptsDigit_b46 G post x0 ((v26 * (10 : Int32)) + x1) M))))
def wp_X0_acceptsDigit (G : k_G) (post : Int32 → k_M → Prop) (p0 : Nat) (p1 : Int32) (M0 : k_M) : Prop :=
  (∃ fs1 v2, M0 p0 = some (kO 1 fs1) ∧ fs1[5]? = some (.int v2) ∧
  ((v2 = (2 : Int32) →
  post (0 : Int32) M0) ∧
  (¬ v2 = (2 : Int32) →
  (∃ fs5 v6, M0 p0 = some (kO 1 fs5) ∧ fs5[5]? = some (.int v6) ∧
    ((¬ v6 = (1 : Int32) →
    wp_X0_acceptsDigit_b25 G post p0 p1 M0) ∧
    (v6 = (1 : Int32) →
    (∃ fs29 v30, M0 p0 = some (kO 1 fs29) ∧ fs29[6]? = some (.int v30) ∧
      ((¬ v30 = 0 →
      wp_X0_acceptsDigit_b25 G post p0 p1 M0) ∧
      (v30 = 0 →
      post (0 : Int32) M0)))))))))
theorem in_X0_acceptsDigit_X0 : ∀ w ∈ wsX00, w ∈ wsX0_acceptsDigit := by decide +kernel
set_option maxHeartbeats 4000000 in
set_option maxRecDepth 100000 in
theorem c_X0_acceptsDigit (l : Launch) (G : k_G) (M0 : k_M) (sz : Nat) (post : Int32 → k_M → Prop) (p0 : Nat) (p1 : Int32) (h : wp_X0_acceptsDigit G post p0 p1 M0) : Met l yX0_acceptsDigit wsX0_acceptsDigit ({ frames := 1, cells := 0, slots := 0, locals := 21 }) (va_Pc [.ref p0, .int p1] (kPre G M0 sz)) (va_Qi post (kB G M0 sz) (kA M0 sz)) 0 0 (kA M0 sz) := by
  refine Met.ofW (cc := cX0_acceptsDigit) (maxL := 3) (ret := (some .boolean)) (by decide) rfl ?_
  intro p e s m args below meth c s₁ B hml hv
  obtain ⟨rfl, hsz, hR, hE⟩ := hv
  have hx := B.exec
  have hb := B.bytes
  have hr := B.returns
  have hts := atoms_spec (ws := wsX0_acceptsDigit) B.pre
  have hown : s.vm.findClass RX0 = some m.cls := findClass_of_methodNamed B.named
  have hlocks := B.notSynchronized
  subst hsz
  have hK := hE.1
  have hA : ∀ q, s.heap.size ≤ q → kA M0 s.heap.size q := kA.new
  have hS : va_S (kA M0 s.heap.size) s.heap s.heap [] := va_S.rf
  have hw1 := hts (.fieldLink RX0 34 "ForkedStamps$Pad" "stage" "I") (by decide +kernel)
  have hw2 := hts (.fieldLink RX0 55 "ForkedStamps$Pad" "number" "I") (by decide +kernel)
  have b46 : ∀ (x0 : Nat) (s0 : Int32) (M : k_M) (H : Heap) (locs : List Loc) (ls : Array Slot), wp_X0_acceptsDigit_b46 G post x0 s0 M → lv_has ls 3 [(0, .ref x0)] → kR G M (kA M0 s.heap.size) H → va_S (kA M0 s.heap.size) s.heap H locs → W p l e (headSpec wsX0_acceptsDigit ({ frames := 1, cells := 0, slots := 0, locals := 21 })).room s m ([.ref p0, .int p1] : List Value).toArray below meth c H locs 0 0 (MQ below (va_Qi post (kB G M0 s.heap.size) (kA M0 s.heap.size)) ([.ref p0, .int p1] : List Value).toArray s 0 0 (kA M0 s.heap.size)) (F0 m 46 ls [.int s0]) := by
    intro x0 s0 M H locs ls h hl hR hS
    refine lv_istore_n (lv' := [(2, .int s0), (0, .ref x0)]) hx hb dX0_acceptsDigit_46 rfl hl (by decide) rfl (fun ls hl => ?_)
    refine lv_iload_n hx hb dX0_acceptsDigit_47 rfl (lv_at hl 0 rfl) ?_
    refine lv_sipush (v := (250 : Int32)) hx hb dX0_acceptsDigit_48 (by decide) ?_
    obtain ⟨ha, hb2⟩ := h
    refine lv_icmp_le (tgt := 56) hx hb dX0_acceptsDigit_51 (by decide) (fun hc => ?_) (fun hc => ?_)
    · replace h := ha hc
      refine lv_aload_n hx hb dX0_acceptsDigit_56 rfl (lv_at hl 1 rfl) ?_
      refine lv_iconst (v := (1 : Int32)) hx hb dX0_acceptsDigit_57 (by decide) ?_
      obtain ⟨fs13, hm15, hk16, h⟩ := h
      replace h := h _ rfl
      refine k_put (ci := 1) (v := .int (1 : Int32)) (ty := .int) (C := RX0) (T := TX0) (N := 7) hx hb hts in_X0_acceptsDigit_X0 tyX0 tyX0_ok nmX0 hown hK hR hS hm15 rfl 5 (by decide) hw1 (fun _ h9 => h9) rfl (by decide +kernel) rfl rfl hk16 dX0_acceptsDigit_58 (fun H locs hR hS => ?_)
      refine lv_aload_n hx hb dX0_acceptsDigit_61 rfl (lv_at hl 1 rfl) ?_
      refine lv_iload_n hx hb dX0_acceptsDigit_62 rfl (lv_at hl 0 rfl) ?_
      obtain ⟨fs17, hm19, hk20, h⟩ := h
      replace h := h _ rfl
      refine k_put (ci := 1) (v := .int s0) (ty := .int) (C := RX0) (T := TX0) (N := 7) hx hb hts in_X0_acceptsDigit_X0 tyX0 tyX0_ok nmX0 hown hK hR hS hm19 rfl 6 (by decide) hw2 (fun _ h9 => h9) rfl (by decide +kernel) rfl rfl hk20 dX0_acceptsDigit_63 (fun H locs hR hS => ?_)
      refine lv_aload_n hx hb dX0_acceptsDigit_66 rfl (lv_at hl 1 rfl) ?_
      obtain ⟨fs24, hm23, h⟩ := h
      refine k_callv0 (va_runV (As := []) (rest := []) ⟨hx, hb, hml, hown, hts⟩ (c_X0_fillRow l G _ _ _ x0 h) (cwV 0 hts gX0_acceptsDigit_X0_fillRow rfl rfl rfl (by decide +kernel) ⟨Nat.le_of_ble_eq_true rfl, Nat.le_of_ble_eq_true rfl⟩) (k_preV (q := (RX0, TX0, 7)) hm23 rfl hR hS hA hE) rfl rfl hl.1 rfl (lv_room (Nat.le_of_ble_eq_true rfl)) dX0_acceptsDigit_67 ⟨Nat.zero_le _, Nat.zero_le _⟩) hR hS hA (fun M22 H locs h hR hS => ?_)
      refine lv_iconst (v := (1 : Int32)) hx hb dX0_acceptsDigit_70 (by decide) ?_
      exact k_reti hx hb hr hlocks (by decide) hR hS h dX0_acceptsDigit_71
    · replace h := hb2 hc
      refine lv_iconst (v := (0 : Int32)) hx hb dX0_acceptsDigit_54 (by decide) ?_
      exact k_reti hx hb hr hlocks (by decide) hR hS h dX0_acceptsDigit_55
  have b25 : ∀ (x0 : Nat) (x1 : Int32) (M : k_M) (H : Heap) (locs : List Loc) (ls : Array Slot), wp_X0_acceptsDigit_b25 G post x0 x1 M → lv_has ls 3 [(0, .ref x0), (1, .int x1)] → kR G M (kA M0 s.heap.size) H → va_S (kA M0 s.heap.size) s.heap H locs → W p l e (headSpec wsX0_acceptsDigit ({ frames := 1, cells := 0, slots := 0, locals := 21 })).room s m ([.ref p0, .int p1] : List Value).toArray below meth c H locs 0 0 (MQ below (va_Qi post (kB G M0 s.heap.size) (kA M0 s.heap.size)) ([.ref p0, .int p1] : List Value).toArray s 0 0 (kA M0 s.heap.size)) (F0 m 25 ls []) := by
    intro x0 x1 M H locs ls h hl hR hS
    refine lv_aload_n hx hb dX0_acceptsDigit_25 rfl (lv_at hl 0 rfl) ?_
    obtain ⟨fs9, v10, hm11, hv12, h⟩ := h
    refine k_get (ci := 1) (C := RX0) (T := TX0) (N := 7) hx hb hts in_X0_acceptsDigit_X0 hown hK hR hm11 rfl 5 (by decide) hw1 (fun _ h9 => h9) hv12 dX0_acceptsDigit_26 ?_
    refine lv_iconst (v := (1 : Int32)) hx hb dX0_acceptsDigit_29 (by decide) ?_
    obtain ⟨ha, hb2⟩ := h
    refine lv_icmp_ne (tgt := 45) hx hb dX0_acceptsDigit_30 (by decide) (fun hc => ?_) (fun hc => ?_)
    · replace h := ha hc
      refine lv_iload_n hx hb dX0_acceptsDigit_45 rfl (lv_at hl 1 rfl) ?_
      exact b46 _ _ _ _ _ _ h (lv_sub hl [0] rfl) hR hS
    · replace h := hb2 hc
      refine lv_aload_n hx hb dX0_acceptsDigit_33 rfl (lv_at hl 0 rfl) ?_
      obtain ⟨fs25, v26, hm27, hv28, h⟩ := h
      refine k_get (ci := 1) (C := RX0) (T := TX0) (N := 7) hx hb hts in_X0_acceptsDigit_X0 hown hK hR hm27 rfl 6 (by decide) hw2 (fun _ h9 => h9) hv28 dX0_acceptsDigit_34 ?_
      refine lv_bipush (v := (10 : Int32)) hx hb dX0_acceptsDigit_37 (by decide) ?_
      refine lv_imul hx hb dX0_acceptsDigit_39 ?_
      refine lv_iload_n hx hb dX0_acceptsDigit_40 rfl (lv_at hl 1 rfl) ?_
      refine lv_iadd hx hb dX0_acceptsDigit_41 ?_
      refine lv_goto (tgt := 46) hx hb dX0_acceptsDigit_42 (by decide) ?_
      exact b46 _ _ _ _ _ _ h (lv_sub hl [0] rfl) hR hS
  have hl := lv_entry ([.ref p0, .int p1]) (n := 3) (Nat.le_of_ble_eq_true rfl)
  rw [lg_entry_eq]
  generalize (lg_sl ([.ref p0, .int p1]) ++ List.replicate (3 - (lg_sl ([.ref p0, .int p1])).length) Slot.unset).toArray = ls at hl ⊢
  have hl : lv_has ls 3 [(0, .ref p0), (1, .int p1)] := hl
  have hR0 := hR
  refine lv_aload_n hx hb dX0_acceptsDigit_0 rfl (lv_at hl 0 rfl) ?_
  obtain ⟨fs1, v2, hm3, hv4, h⟩ := h
  refine k_get (ci := 1) (C := RX0) (T := TX0) (N := 7) hx hb hts in_X0_acceptsDigit_X0 hown hK hR hm3 rfl 5 (by decide) hw1 (fun _ h9 => h9) hv4 dX0_acceptsDigit_1 ?_
  refine lv_iconst (v := (2 : Int32)) hx hb dX0_acceptsDigit_4 (by decide) ?_
  obtain ⟨ha, hb2⟩ := h
  refine lv_icmp_eq (tgt := 23) hx hb dX0_acceptsDigit_5 (by decide) (fun hc => ?_) (fun hc => ?_)
  · replace h := ha hc
    refine lv_iconst (v := (0 : Int32)) hx hb dX0_acceptsDigit_23 (by decide) ?_
    exact k_reti hx hb hr hlocks (by decide) hR hS h dX0_acceptsDigit_24
  · replace h := hb2 hc
    refine lv_aload_n hx hb dX0_acceptsDigit_8 rfl (lv_at hl 0 rfl) ?_
    obtain ⟨fs5, v6, hm7, hv8, h⟩ := h
    refine k_get (ci := 1) (C := RX0) (T := TX0) (N := 7) hx hb hts in_X0_acceptsDigit_X0 hown hK hR hm7 rfl 5 (by decide) hw1 (fun _ h9 => h9) hv8 dX0_acceptsDigit_9 ?_
    refine lv_iconst (v := (1 : Int32)) hx hb dX0_acceptsDigit_12 (by decide) ?_
    obtain ⟨ha, hb2⟩ := h
    refine lv_icmp_ne (tgt := 25) hx hb dX0_acceptsDigit_13 (by decide) (fun hc => ?_) (fun hc => ?_)
    · replace h := ha hc
      exact b25 _ _ _ _ _ _ h (lv_sub hl [0, 1] rfl) hR hS
    · replace h := hb2 hc
      refine lv_aload_n hx hb dX0_acceptsDigit_16 rfl (lv_at hl 0 rfl) ?_
      obtain ⟨fs29, v30, hm31, hv32, h⟩ := h
      refine k_get (ci := 1) (C := RX0) (T := TX0) (N := 7) hx hb hts in_X0_acceptsDigit_X0 hown hK hR hm31 rfl 6 (by decide) hw2 (fun _ h9 => h9) hv32 dX0_acceptsDigit_17 ?_
      obtain ⟨ha, hb2⟩ := h
      refine lv_if_ne (tgt := 25) hx hb dX0_acceptsDigit_20 (by decide) (fun hc => ?_) (fun hc => ?_)
      · replace h := ha hc
        exact b25 _ _ _ _ _ _ h (lv_sub hl [0, 1] rfl) hR hS
      · replace h := hb2 hc
        refine lv_iconst (v := (0 : Int32)) hx hb dX0_acceptsDigit_23 (by decide) ?_
        exact k_reti hx hb hr hlocks (by decide) hR hS h dX0_acceptsDigit_24

def wp_X0_acceptsOpening (G : k_G) (post : Int32 → k_M → Prop) (p0 : Nat) (M0 : k_M) : Prop :=
  (∃ fs1 v2, M0 p0 = some (kO 1 fs1) ∧ fs1[5]? = some (.int v2) ∧
  ((¬ v2 = 0 →
  post (0 : Int32) M0) ∧
  (v2 = 0 →
  (∃ fs5 v6, M0 p0 = some (kO 1 fs5) ∧ fs5[4]? = some (.int v6) ∧
    ((¬ v6 = (1 : Int32) →
    (∃ fs9 v10, M0 p0 = some (kO 1 fs9) ∧ fs9[4]? = some (.int v10) ∧
      (∃ fs13, M0 p0 = some (kO 1 fs13) ∧ 4 < fs13.length ∧ ∀ M14 : k_M, M14 = va_up M0 p0 (some (kO 1 (fs13.set 4 (.int (v10 / (2 : Int32)))))) →
      post (1 : Int32) M14))) ∧
    (v6 = (1 : Int32) →
    post (0 : Int32) M0))))))
theorem in_X0_acceptsOpening_X0 : ∀ w ∈ wsX00, w ∈ wsX0_acceptsOpening := by decide +kernel
set_option maxHeartbeats 4000000 in
set_option maxRecDepth 100000 in
theorem c_X0_acceptsOpening (l : Launch) (G : k_G) (M0 : k_M) (sz : Nat) (post : Int32 → k_M → Prop) (p0 : Nat) (h : wp_X0_acceptsOpening G post p0 M0) : Met l yX0_acceptsOpening wsX0_acceptsOpening ({ frames := 0, cells := 0, slots := 0, locals := 0 }) (va_Pc [.ref p0] (kPre G M0 sz)) (va_Qi post (kB G M0 sz) (kA M0 sz)) 0 0 (kA M0 sz) := by
  refine Met.ofW (cc := cX0_acceptsOpening) (maxL := 1) (ret := (some .boolean)) (by decide) rfl ?_
  intro p e s m args below meth c s₁ B hml hv
  obtain ⟨rfl, hsz, hR, hE⟩ := hv
  have hx := B.exec
  have hb := B.bytes
  have hr := B.returns
  have hts := atoms_spec (ws := wsX0_acceptsOpening) B.pre
  have hown : s.vm.findClass RX0 = some m.cls := findClass_of_methodNamed B.named
  have hlocks := B.notSynchronized
  subst hsz
  have hK := hE.1
  have hA : ∀ q, s.heap.size ≤ q → kA M0 s.heap.size q := kA.new
  have hS : va_S (kA M0 s.heap.size) s.heap s.heap [] := va_S.rf
  have hw1 := hts (.fieldLink RX0 34 "ForkedStamps$Pad" "stage" "I") (by decide +kernel)
  have hw2 := hts (.fieldLink RX0 31 "ForkedStamps$Pad" "size" "I") (by decide +kernel)
  have hl := lv_entry ([.ref p0]) (n := 1) (Nat.le_of_ble_eq_true rfl)
  rw [lg_entry_eq]
  generalize (lg_sl ([.ref p0]) ++ List.replicate (1 - (lg_sl ([.ref p0])).length) Slot.unset).toArray = ls at hl ⊢
  have hl : lv_has ls 1 [(0, .ref p0)] := hl
  have hR0 := hR
  refine lv_aload_n hx hb dX0_acceptsOpening_0 rfl (lv_at hl 0 rfl) ?_
  obtain ⟨fs1, v2, hm3, hv4, h⟩ := h
  refine k_get (ci := 1) (C := RX0) (T := TX0) (N := 7) hx hb hts in_X0_acceptsOpening_X0 hown hK hR hm3 rfl 5 (by decide) hw1 (fun _ h9 => h9) hv4 dX0_acceptsOpening_1 ?_
  obtain ⟨ha, hb2⟩ := h
  refine lv_if_ne (tgt := 15) hx hb dX0_acceptsOpening_4 (by decide) (fun hc => ?_) (fun hc => ?_)
  · replace h := ha hc
    refine lv_iconst (v := (0 : Int32)) hx hb dX0_acceptsOpening_15 (by decide) ?_
    exact k_reti hx hb hr hlocks (by decide) hR hS h dX0_acceptsOpening_16
  · replace h := hb2 hc
    refine lv_aload_n hx hb dX0_acceptsOpening_7 rfl (lv_at hl 0 rfl) ?_
    obtain ⟨fs5, v6, hm7, hv8, h⟩ := h
    refine k_get (ci := 1) (C := RX0) (T := TX0) (N := 7) hx hb hts in_X0_acceptsOpening_X0 hown hK hR hm7 rfl 4 (by decide) hw2 (fun _ h9 => h9) hv8 dX0_acceptsOpening_8 ?_
    refine lv_iconst (v := (1 : Int32)) hx hb dX0_acceptsOpening_11 (by decide) ?_
    obtain ⟨ha, hb2⟩ := h
    refine lv_icmp_ne (tgt := 17) hx hb dX0_acceptsOpening_12 (by decide) (fun hc => ?_) (fun hc => ?_)
    · replace h := ha hc
      refine lv_aload_n hx hb dX0_acceptsOpening_17 rfl (lv_at hl 0 rfl) ?_
      refine lv_dup hx hb dX0_acceptsOpening_18 rfl ?_
      obtain ⟨fs9, v10, hm11, hv12, h⟩ := h
      refine k_get (ci := 1) (C := RX0) (T := TX0) (N := 7) hx hb hts in_X0_acceptsOpening_X0 hown hK hR hm11 rfl 4 (by decide) hw2 (fun _ h9 => h9) hv12 dX0_acceptsOpening_19 ?_
      refine lv_iconst (v := (2 : Int32)) hx hb dX0_acceptsOpening_22 (by decide) ?_
      refine lv_idiv hx hb dX0_acceptsOpening_23 (by decide) ?_
      obtain ⟨fs13, hm15, hk16, h⟩ := h
      replace h := h _ rfl
      refine k_put (ci := 1) (v := .int (v10 / (2 : Int32))) (ty := .int) (C := RX0) (T := TX0) (N := 7) hx hb hts in_X0_acceptsOpening_X0 tyX0 tyX0_ok nmX0 hown hK hR hS hm15 rfl 4 (by decide) hw2 (fun _ h9 => h9) rfl (by decide +kernel) rfl rfl hk16 dX0_acceptsOpening_24 (fun H locs hR hS => ?_)
      refine lv_iconst (v := (1 : Int32)) hx hb dX0_acceptsOpening_27 (by decide) ?_
      exact k_reti hx hb hr hlocks (by decide) hR hS h dX0_acceptsOpening_28
    · replace h := hb2 hc
      refine lv_iconst (v := (0 : Int32)) hx hb dX0_acceptsOpening_15 (by decide) ?_
      exact k_reti hx hb hr hlocks (by decide) hR hS h dX0_acceptsOpening_16

def wp_X0_isUpperHalf (G : k_G) (post : Int32 → k_M → Prop) (p0 : Nat) (M0 : k_M) : Prop :=
  (∃ fs1 v2, M0 p0 = some (kO 1 fs1) ∧ fs1[3]? = some (.int v2) ∧
  (∃ fs5 v6, M0 p0 = some (kO 1 fs5) ∧ fs5[4]? = some (.int v6) ∧
  (((v2 &&& v6) = 0 →
  post (0 : Int32) M0) ∧
  (¬ (v2 &&& v6) = 0 →
  post (1 : Int32) M0))))
theorem in_X0_isUpperHalf_X0 : ∀ w ∈ wsX00, w ∈ wsX0_isUpperHalf := by decide +kernel
set_option maxHeartbeats 4000000 in
set_option maxRecDepth 100000 in
theorem c_X0_isUpperHalf (l : Launch) (G : k_G) (M0 : k_M) (sz : Nat) (post : Int32 → k_M → Prop) (p0 : Nat) (h : wp_X0_isUpperHalf G post p0 M0) : Met l yX0_isUpperHalf wsX0_isUpperHalf ({ frames := 0, cells := 0, slots := 0, locals := 0 }) (va_Pc [.ref p0] (kPre G M0 sz)) (va_Qi post (kB G M0 sz) (kA M0 sz)) 0 0 (kA M0 sz) := by
  refine Met.ofW (cc := cX0_isUpperHalf) (maxL := 1) (ret := (some .boolean)) (by decide) rfl ?_
  intro p e s m args below meth c s₁ B hml hv
  obtain ⟨rfl, hsz, hR, hE⟩ := hv
  have hx := B.exec
  have hb := B.bytes
  have hr := B.returns
  have hts := atoms_spec (ws := wsX0_isUpperHalf) B.pre
  have hown : s.vm.findClass RX0 = some m.cls := findClass_of_methodNamed B.named
  have hlocks := B.notSynchronized
  subst hsz
  have hK := hE.1
  have hA : ∀ q, s.heap.size ≤ q → kA M0 s.heap.size q := kA.new
  have hS : va_S (kA M0 s.heap.size) s.heap s.heap [] := va_S.rf
  have hw1 := hts (.fieldLink RX0 28 "ForkedStamps$Pad" "first" "I") (by decide +kernel)
  have hw2 := hts (.fieldLink RX0 31 "ForkedStamps$Pad" "size" "I") (by decide +kernel)
  have hl := lv_entry ([.ref p0]) (n := 1) (Nat.le_of_ble_eq_true rfl)
  rw [lg_entry_eq]
  generalize (lg_sl ([.ref p0]) ++ List.replicate (1 - (lg_sl ([.ref p0])).length) Slot.unset).toArray = ls at hl ⊢
  have hl : lv_has ls 1 [(0, .ref p0)] := hl
  have hR0 := hR
  refine lv_aload_n hx hb dX0_isUpperHalf_0 rfl (lv_at hl 0 rfl) ?_
  obtain ⟨fs1, v2, hm3, hv4, h⟩ := h
  refine k_get (ci := 1) (C := RX0) (T := TX0) (N := 7) hx hb hts in_X0_isUpperHalf_X0 hown hK hR hm3 rfl 3 (by decide) hw1 (fun _ h9 => h9) hv4 dX0_isUpperHalf_1 ?_
  refine lv_aload_n hx hb dX0_isUpperHalf_4 rfl (lv_at hl 0 rfl) ?_
  obtain ⟨fs5, v6, hm7, hv8, h⟩ := h
  refine k_get (ci := 1) (C := RX0) (T := TX0) (N := 7) hx hb hts in_X0_isUpperHalf_X0 hown hK hR hm7 rfl 4 (by decide) hw2 (fun _ h9 => h9) hv8 dX0_isUpperHalf_5 ?_
  refine lv_iand hx hb dX0_isUpperHalf_8 ?_
  obtain ⟨ha, hb2⟩ := h
  refine lv_if_eq (tgt := 16) hx hb dX0_isUpperHalf_9 (by decide) (fun hc => ?_) (fun hc => ?_)
  · replace h := ha hc
    refine lv_iconst (v := (0 : Int32)) hx hb dX0_isUpperHalf_16 (by decide) ?_
    exact k_reti hx hb hr hlocks (by decide) hR hS h dX0_isUpperHalf_17
  · replace h := hb2 hc
    refine lv_iconst (v := (1 : Int32)) hx hb dX0_isUpperHalf_12 (by decide) ?_
    refine lv_goto (tgt := 17) hx hb dX0_isUpperHalf_13 (by decide) ?_
    exact k_reti hx hb hr hlocks (by decide) hR hS h dX0_isUpperHalf_17

def wp_X0_acceptsComma (G : k_G) (post : Int32 → k_M → Prop) (p0 : Nat) (M0 : k_M) : Prop :=
  (∃ fs1 v2, M0 p0 = some (kO 1 fs1) ∧ fs1[5]? = some (.int v2) ∧
  ((v2 = 0 →
  post (0 : Int32) M0) ∧
  (¬ v2 = 0 →
  (∃ fs5 v6, M0 p0 = some (kO 1 fs5) ∧ fs5[4]? = some (.int v6) ∧
    ((v6 = (16 : Int32) →
    post (0 : Int32) M0) ∧
    (¬ v6 = (16 : Int32) →
    (∃ fs12, M0 p0 = some (kO 1 fs12) ∧ wp_X0_isUpperHalf G (fun r9 M10 =>
      ((r9 = 0 →
      (∃ fs13 v14, M10 p0 = some (kO 1 fs13) ∧ fs13[3]? = some (.int v14) ∧
        (∃ fs17 v18, M10 p0 = some (kO 1 fs17) ∧ fs17[4]? = some (.int v18) ∧
        (∃ fs21, M10 p0 = some (kO 1 fs21) ∧ 3 < fs21.length ∧ ∀ M22 : k_M, M22 = va_up M10 p0 (some (kO 1 (fs21.set 3 (.int (v14 + v18))))) →
        (∃ fs25, M22 p0 = some (kO 1 fs25) ∧ 5 < fs25.length ∧ ∀ M26 : k_M, M26 = va_up M22 p0 (some (kO 1 (fs25.set 5 (.int (0 : Int32))))) →
        post (1 : Int32) M26))))) ∧
      (¬ r9 = 0 →
      post (0 : Int32) M10))) p0 M0)))))))
theorem in_X0_acceptsComma_X0 : ∀ w ∈ wsX00, w ∈ wsX0_acceptsComma := by decide +kernel
set_option maxHeartbeats 4000000 in
set_option maxRecDepth 100000 in
theorem c_X0_acceptsComma (l : Launch) (G : k_G) (M0 : k_M) (sz : Nat) (post : Int32 → k_M → Prop) (p0 : Nat) (h : wp_X0_acceptsComma G post p0 M0) : Met l yX0_acceptsComma wsX0_acceptsComma ({ frames := 1, cells := 0, slots := 0, locals := 20 }) (va_Pc [.ref p0] (kPre G M0 sz)) (va_Qi post (kB G M0 sz) (kA M0 sz)) 0 0 (kA M0 sz) := by
  refine Met.ofW (cc := cX0_acceptsComma) (maxL := 1) (ret := (some .boolean)) (by decide) rfl ?_
  intro p e s m args below meth c s₁ B hml hv
  obtain ⟨rfl, hsz, hR, hE⟩ := hv
  have hx := B.exec
  have hb := B.bytes
  have hr := B.returns
  have hts := atoms_spec (ws := wsX0_acceptsComma) B.pre
  have hown : s.vm.findClass RX0 = some m.cls := findClass_of_methodNamed B.named
  have hlocks := B.notSynchronized
  subst hsz
  have hK := hE.1
  have hA : ∀ q, s.heap.size ≤ q → kA M0 s.heap.size q := kA.new
  have hS : va_S (kA M0 s.heap.size) s.heap s.heap [] := va_S.rf
  have hw1 := hts (.fieldLink RX0 34 "ForkedStamps$Pad" "stage" "I") (by decide +kernel)
  have hw2 := hts (.fieldLink RX0 31 "ForkedStamps$Pad" "size" "I") (by decide +kernel)
  have hw3 := hts (.fieldLink RX0 28 "ForkedStamps$Pad" "first" "I") (by decide +kernel)
  have hl := lv_entry ([.ref p0]) (n := 1) (Nat.le_of_ble_eq_true rfl)
  rw [lg_entry_eq]
  generalize (lg_sl ([.ref p0]) ++ List.replicate (1 - (lg_sl ([.ref p0])).length) Slot.unset).toArray = ls at hl ⊢
  have hl : lv_has ls 1 [(0, .ref p0)] := hl
  have hR0 := hR
  refine lv_aload_n hx hb dX0_acceptsComma_0 rfl (lv_at hl 0 rfl) ?_
  obtain ⟨fs1, v2, hm3, hv4, h⟩ := h
  refine k_get (ci := 1) (C := RX0) (T := TX0) (N := 7) hx hb hts in_X0_acceptsComma_X0 hown hK hR hm3 rfl 5 (by decide) hw1 (fun _ h9 => h9) hv4 dX0_acceptsComma_1 ?_
  obtain ⟨ha, hb2⟩ := h
  refine lv_if_eq (tgt := 23) hx hb dX0_acceptsComma_4 (by decide) (fun hc => ?_) (fun hc => ?_)
  · replace h := ha hc
    refine lv_iconst (v := (0 : Int32)) hx hb dX0_acceptsComma_23 (by decide) ?_
    exact k_reti hx hb hr hlocks (by decide) hR hS h dX0_acceptsComma_24
  · replace h := hb2 hc
    refine lv_aload_n hx hb dX0_acceptsComma_7 rfl (lv_at hl 0 rfl) ?_
    obtain ⟨fs5, v6, hm7, hv8, h⟩ := h
    refine k_get (ci := 1) (C := RX0) (T := TX0) (N := 7) hx hb hts in_X0_acceptsComma_X0 hown hK hR hm7 rfl 4 (by decide) hw2 (fun _ h9 => h9) hv8 dX0_acceptsComma_8 ?_
    refine lv_bipush (v := (16 : Int32)) hx hb dX0_acceptsComma_11 (by decide) ?_
    obtain ⟨ha, hb2⟩ := h
    refine lv_icmp_eq (tgt := 23) hx hb dX0_acceptsComma_13 (by decide) (fun hc => ?_) (fun hc => ?_)
    · replace h := ha hc
      refine lv_iconst (v := (0 : Int32)) hx hb dX0_acceptsComma_23 (by decide) ?_
      exact k_reti hx hb hr hlocks (by decide) hR hS h dX0_acceptsComma_24
    · replace h := hb2 hc
      refine lv_aload_n hx hb dX0_acceptsComma_16 rfl (lv_at hl 0 rfl) ?_
      obtain ⟨fs12, hm11, h⟩ := h
      refine k_calli0 (va_runV (As := []) (rest := []) ⟨hx, hb, hml, hown, hts⟩ (c_X0_isUpperHalf l G _ _ _ p0 h) (cwV 0 hts gX0_acceptsComma_X0_isUpperHalf rfl rfl rfl (by decide +kernel) ⟨Nat.le_of_ble_eq_true rfl, Nat.le_of_ble_eq_true rfl⟩) (k_preV (q := (RX0, TX0, 7)) hm11 rfl hR hS hA hE) rfl rfl hl.1 rfl (lv_room (Nat.le_of_ble_eq_true rfl)) dX0_acceptsComma_17 ⟨Nat.zero_le _, Nat.zero_le _⟩) hR hS hA (fun r9 M10 H locs h hR hS => ?_)
      obtain ⟨ha, hb2⟩ := h
      refine lv_if_eq (tgt := 25) hx hb dX0_acceptsComma_20 (by decide) (fun hc => ?_) (fun hc => ?_)
      · replace h := ha hc
        refine lv_aload_n hx hb dX0_acceptsComma_25 rfl (lv_at hl 0 rfl) ?_
        refine lv_dup hx hb dX0_acceptsComma_26 rfl ?_
        obtain ⟨fs13, v14, hm15, hv16, h⟩ := h
        refine k_get (ci := 1) (C := RX0) (T := TX0) (N := 7) hx hb hts in_X0_acceptsComma_X0 hown hK hR hm15 rfl 3 (by decide) hw3 (fun _ h9 => h9) hv16 dX0_acceptsComma_27 ?_
        refine lv_aload_n hx hb dX0_acceptsComma_30 rfl (lv_at hl 0 rfl) ?_
        obtain ⟨fs17, v18, hm19, hv20, h⟩ := h
        refine k_get (ci := 1) (C := RX0) (T := TX0) (N := 7) hx hb hts in_X0_acceptsComma_X0 hown hK hR hm19 rfl 4 (by decide) hw2 (fun _ h9 => h9) hv20 dX0_acceptsComma_31 ?_
        refine lv_iadd hx hb dX0_acceptsComma_34 ?_
        obtain ⟨fs21, hm23, hk24, h⟩ := h
        replace h := h _ rfl
        refine k_put (ci := 1) (v := .int (v14 + v18)) (ty := .int) (C := RX0) (T := TX0) (N := 7) hx hb hts in_X0_acceptsComma_X0 tyX0 tyX0_ok nmX0 hown hK hR hS hm23 rfl 3 (by decide) hw3 (fun _ h9 => h9) rfl (by decide +kernel) rfl rfl hk24 dX0_acceptsComma_35 (fun H locs hR hS => ?_)
        refine lv_aload_n hx hb dX0_acceptsComma_38 rfl (lv_at hl 0 rfl) ?_
        refine lv_iconst (v := (0 : Int32)) hx hb dX0_acceptsComma_39 (by decide) ?_
        obtain ⟨fs25, hm27, hk28, h⟩ := h
        replace h := h _ rfl
        refine k_put (ci := 1) (v := .int (0 : Int32)) (ty := .int) (C := RX0) (T := TX0) (N := 7) hx hb hts in_X0_acceptsComma_X0 tyX0 tyX0_ok nmX0 hown hK hR hS hm27 rfl 5 (by decide) hw1 (fun _ h9 => h9) rfl (by decide +kernel) rfl rfl hk28 dX0_acceptsComma_40 (fun H locs hR hS => ?_)
        refine lv_iconst (v := (1 : Int32)) hx hb dX0_acceptsComma_43 (by decide) ?_
        exact k_reti hx hb hr hlocks (by decide) hR hS h dX0_acceptsComma_44
      · replace h := hb2 hc
        refine lv_iconst (v := (0 : Int32)) hx hb dX0_acceptsComma_23 (by decide) ?_
        exact k_reti hx hb hr hlocks (by decide) hR hS h dX0_acceptsComma_24

def wp_X0_acceptsClosing (G : k_G) (post : Int32 → k_M → Prop) (p0 : Nat) (M0 : k_M) : Prop :=
  (∃ fs1 v2, M0 p0 = some (kO 1 fs1) ∧ fs1[5]? = some (.int v2) ∧
  ((v2 = 0 →
  post (0 : Int32) M0) ∧
  (¬ v2 = 0 →
  (∃ fs5 v6, M0 p0 = some (kO 1 fs5) ∧ fs5[4]? = some (.int v6) ∧
    ((v6 = (16 : Int32) →
    post (0 : Int32) M0) ∧
    (¬ v6 = (16 : Int32) →
    (∃ fs12, M0 p0 = some (kO 1 fs12) ∧ wp_X0_isUpperHalf G (fun r9 M10 =>
      ((¬ r9 = 0 →
      (∃ fs13 v14, M10 p0 = some (kO 1 fs13) ∧ fs13[3]? = some (.int v14) ∧
        (∃ fs17 v18, M10 p0 = some (kO 1 fs17) ∧ fs17[4]? = some (.int v18) ∧
        (∃ fs21, M10 p0 = some (kO 1 fs21) ∧ 3 < fs21.length ∧ ∀ M22 : k_M, M22 = va_up M10 p0 (some (kO 1 (fs21.set 3 (.int (v14 - v18))))) →
        (∃ fs25 v26, M22 p0 = some (kO 1 fs25) ∧ fs25[4]? = some (.int v26) ∧
        (∃ fs29, M22 p0 = some (kO 1 fs29) ∧ 4 < fs29.length ∧ ∀ M30 : k_M, M30 = va_up M22 p0 (some (kO 1 (fs29.set 4 (.int (v26 * (2 : Int32)))))) →
        (∃ fs33, M30 p0 = some (kO 1 fs33) ∧ 5 < fs33.length ∧ ∀ M34 : k_M, M34 = va_up M30 p0 (some (kO 1 (fs33.set 5 (.int (2 : Int32))))) →
        post (1 : Int32) M34))))))) ∧
      (r9 = 0 →
      post (0 : Int32) M10))) p0 M0)))))))
theorem in_X0_acceptsClosing_X0 : ∀ w ∈ wsX00, w ∈ wsX0_acceptsClosing := by decide +kernel
set_option maxHeartbeats 4000000 in
set_option maxRecDepth 100000 in
theorem c_X0_acceptsClosing (l : Launch) (G : k_G) (M0 : k_M) (sz : Nat) (post : Int32 → k_M → Prop) (p0 : Nat) (h : wp_X0_acceptsClosing G post p0 M0) : Met l yX0_acceptsClosing wsX0_acceptsClosing ({ frames := 1, cells := 0, slots := 0, locals := 20 }) (va_Pc [.ref p0] (kPre G M0 sz)) (va_Qi post (kB G M0 sz) (kA M0 sz)) 0 0 (kA M0 sz) := by
  refine Met.ofW (cc := cX0_acceptsClosing) (maxL := 1) (ret := (some .boolean)) (by decide) rfl ?_
  intro p e s m args below meth c s₁ B hml hv
  obtain ⟨rfl, hsz, hR, hE⟩ := hv
  have hx := B.exec
  have hb := B.bytes
  have hr := B.returns
  have hts := atoms_spec (ws := wsX0_acceptsClosing) B.pre
  have hown : s.vm.findClass RX0 = some m.cls := findClass_of_methodNamed B.named
  have hlocks := B.notSynchronized
  subst hsz
  have hK := hE.1
  have hA : ∀ q, s.heap.size ≤ q → kA M0 s.heap.size q := kA.new
  have hS : va_S (kA M0 s.heap.size) s.heap s.heap [] := va_S.rf
  have hw1 := hts (.fieldLink RX0 34 "ForkedStamps$Pad" "stage" "I") (by decide +kernel)
  have hw2 := hts (.fieldLink RX0 31 "ForkedStamps$Pad" "size" "I") (by decide +kernel)
  have hw3 := hts (.fieldLink RX0 28 "ForkedStamps$Pad" "first" "I") (by decide +kernel)
  have hl := lv_entry ([.ref p0]) (n := 1) (Nat.le_of_ble_eq_true rfl)
  rw [lg_entry_eq]
  generalize (lg_sl ([.ref p0]) ++ List.replicate (1 - (lg_sl ([.ref p0])).length) Slot.unset).toArray = ls at hl ⊢
  have hl : lv_has ls 1 [(0, .ref p0)] := hl
  have hR0 := hR
  refine lv_aload_n hx hb dX0_acceptsClosing_0 rfl (lv_at hl 0 rfl) ?_
  obtain ⟨fs1, v2, hm3, hv4, h⟩ := h
  refine k_get (ci := 1) (C := RX0) (T := TX0) (N := 7) hx hb hts in_X0_acceptsClosing_X0 hown hK hR hm3 rfl 5 (by decide) hw1 (fun _ h9 => h9) hv4 dX0_acceptsClosing_1 ?_
  obtain ⟨ha, hb2⟩ := h
  refine lv_if_eq (tgt := 23) hx hb dX0_acceptsClosing_4 (by decide) (fun hc => ?_) (fun hc => ?_)
  · replace h := ha hc
    refine lv_iconst (v := (0 : Int32)) hx hb dX0_acceptsClosing_23 (by decide) ?_
    exact k_reti hx hb hr hlocks (by decide) hR hS h dX0_acceptsClosing_24
  · replace h := hb2 hc
    refine lv_aload_n hx hb dX0_acceptsClosing_7 rfl (lv_at hl 0 rfl) ?_
    obtain ⟨fs5, v6, hm7, hv8, h⟩ := h
    refine k_get (ci := 1) (C := RX0) (T := TX0) (N := 7) hx hb hts in_X0_acceptsClosing_X0 hown hK hR hm7 rfl 4 (by decide) hw2 (fun _ h9 => h9) hv8 dX0_acceptsClosing_8 ?_
    refine lv_bipush (v := (16 : Int32)) hx hb dX0_acceptsClosing_11 (by decide) ?_
    obtain ⟨ha, hb2⟩ := h
    refine lv_icmp_eq (tgt := 23) hx hb dX0_acceptsClosing_13 (by decide) (fun hc => ?_) (fun hc => ?_)
    · replace h := ha hc
      refine lv_iconst (v := (0 : Int32)) hx hb dX0_acceptsClosing_23 (by decide) ?_
      exact k_reti hx hb hr hlocks (by decide) hR hS h dX0_acceptsClosing_24
    · replace h := hb2 hc
      refine lv_aload_n hx hb dX0_acceptsClosing_16 rfl (lv_at hl 0 rfl) ?_
      obtain ⟨fs12, hm11, h⟩ := h
      refine k_calli0 (va_runV (As := []) (rest := []) ⟨hx, hb, hml, hown, hts⟩ (c_X0_isUpperHalf l G _ _ _ p0 h) (cwV 0 hts gX0_acceptsClosing_X0_isUpperHalf rfl rfl rfl (by decide +kernel) ⟨Nat.le_of_ble_eq_true rfl, Nat.le_of_ble_eq_true rfl⟩) (k_preV (q := (RX0, TX0, 7)) hm11 rfl hR hS hA hE) rfl rfl hl.1 rfl (lv_room (Nat.le_of_ble_eq_true rfl)) dX0_acceptsClosing_17 ⟨Nat.zero_le _, Nat.zero_le _⟩) hR hS hA (fun r9 M10 H locs h hR hS => ?_)
      obtain ⟨ha, hb2⟩ := h
      refine lv_if_ne (tgt := 25) hx hb dX0_acceptsClosing_20 (by decide) (fun hc => ?_) (fun hc => ?_)
      · replace h := ha hc
        refine lv_aload_n hx hb dX0_acceptsClosing_25 rfl (lv_at hl 0 rfl) ?_
        refine lv_dup hx hb dX0_acceptsClosing_26 rfl ?_
        obtain ⟨fs13, v14, hm15, hv16, h⟩ := h
        refine k_get (ci := 1) (C := RX0) (T := TX0) (N := 7) hx hb hts in_X0_acceptsClosing_X0 hown hK hR hm15 rfl 3 (by decide) hw3 (fun _ h9 => h9) hv16 dX0_acceptsClosing_27 ?_
        refine lv_aload_n hx hb dX0_acceptsClosing_30 rfl (lv_at hl 0 rfl) ?_
        obtain ⟨fs17, v18, hm19, hv20, h⟩ := h
        refine k_get (ci := 1) (C := RX0) (T := TX0) (N := 7) hx hb hts in_X0_acceptsClosing_X0 hown hK hR hm19 rfl 4 (by decide) hw2 (fun _ h9 => h9) hv20 dX0_acceptsClosing_31 ?_
        refine lv_isub hx hb dX0_acceptsClosing_34 ?_
        obtain ⟨fs21, hm23, hk24, h⟩ := h
        replace h := h _ rfl
        refine k_put (ci := 1) (v := .int (v14 - v18)) (ty := .int) (C := RX0) (T := TX0) (N := 7) hx hb hts in_X0_acceptsClosing_X0 tyX0 tyX0_ok nmX0 hown hK hR hS hm23 rfl 3 (by decide) hw3 (fun _ h9 => h9) rfl (by decide +kernel) rfl rfl hk24 dX0_acceptsClosing_35 (fun H locs hR hS => ?_)
        refine lv_aload_n hx hb dX0_acceptsClosing_38 rfl (lv_at hl 0 rfl) ?_
        refine lv_dup hx hb dX0_acceptsClosing_39 rfl ?_
        obtain ⟨fs25, v26, hm27, hv28, h⟩ := h
        refine k_get (ci := 1) (C := RX0) (T := TX0) (N := 7) hx hb hts in_X0_acceptsClosing_X0 hown hK hR hm27 rfl 4 (by decide) hw2 (fun _ h9 => h9) hv28 dX0_acceptsClosing_40 ?_
        refine lv_iconst (v := (2 : Int32)) hx hb dX0_acceptsClosing_43 (by decide) ?_
        refine lv_imul hx hb dX0_acceptsClosing_44 ?_
        obtain ⟨fs29, hm31, hk32, h⟩ := h
        replace h := h _ rfl
        refine k_put (ci := 1) (v := .int (v26 * (2 : Int32))) (ty := .int) (C := RX0) (T := TX0) (N := 7) hx hb hts in_X0_acceptsClosing_X0 tyX0 tyX0_ok nmX0 hown hK hR hS hm31 rfl 4 (by decide) hw2 (fun _ h9 => h9) rfl (by decide +kernel) rfl rfl hk32 dX0_acceptsClosing_45 (fun H locs hR hS => ?_)
        refine lv_aload_n hx hb dX0_acceptsClosing_48 rfl (lv_at hl 0 rfl) ?_
        refine lv_iconst (v := (2 : Int32)) hx hb dX0_acceptsClosing_49 (by decide) ?_
        obtain ⟨fs33, hm35, hk36, h⟩ := h
        replace h := h _ rfl
        refine k_put (ci := 1) (v := .int (2 : Int32)) (ty := .int) (C := RX0) (T := TX0) (N := 7) hx hb hts in_X0_acceptsClosing_X0 tyX0 tyX0_ok nmX0 hown hK hR hS hm35 rfl 5 (by decide) hw1 (fun _ h9 => h9) rfl (by decide +kernel) rfl rfl hk36 dX0_acceptsClosing_50 (fun H locs hR hS => ?_)
        refine lv_iconst (v := (1 : Int32)) hx hb dX0_acceptsClosing_53 (by decide) ?_
        exact k_reti hx hb hr hlocks (by decide) hR hS h dX0_acceptsClosing_54
      · replace h := hb2 hc
        refine lv_iconst (v := (0 : Int32)) hx hb dX0_acceptsClosing_23 (by decide) ?_
        exact k_reti hx hb hr hlocks (by decide) hR hS h dX0_acceptsClosing_24

def wp_X0_accepts_b21 (G : k_G) (post : Int32 → k_M → Prop) (x0 : Nat) (x1 : Int32) (M : k_M) : Prop :=
  ((¬ x1 = (40 : Int32) →
    ((¬ x1 = (44 : Int32) →
      ((¬ x1 = (41 : Int32) →
        post (0 : Int32) M) ∧
        (x1 = (41 : Int32) →
        (∃ fs4, M x0 = some (kO 1 fs4) ∧ wp_X0_acceptsClosing G (fun r1 M2 =>
          ((r1 = 0 →
          post (0 : Int32) M2) ∧
          (¬ r1 = 0 →
          post (1 : Int32) M2))) x0 M)))) ∧
      (x1 = (44 : Int32) →
      (∃ fs8, M x0 = some (kO 1 fs8) ∧ wp_X0_acceptsComma G (fun r5 M6 =>
        (narrow .boolean (.int r5) = .int r5 ∧ post r5 M6)) x0 M)))) ∧
    (x1 = (40 : Int32) →
    (∃ fs13, M x0 = some (kO 1 fs13) ∧ wp_X0_acceptsOpening G (fun r10 M11 =>
      (narrow .boolean (.int r10) = .int r10 ∧ post r10 M11)) x0 M)))
def wp_X0_accepts (G : k_G) (post : Int32 → k_M → Prop) (p0 : Nat) (p1 : Int32) (M0 : k_M) : Prop :=
  ((p1 < (48 : Int32) →
  wp_X0_accepts_b21 G post p0 p1 M0) ∧
  (¬ p1 < (48 : Int32) →
  (((57 : Int32) < p1 →
    wp_X0_accepts_b21 G post p0 p1 M0) ∧
    (¬ (57 : Int32) < p1 →
    (∃ fs18, M0 p0 = some (kO 1 fs18) ∧ wp_X0_acceptsDigit G (fun r15 M16 =>
      (narrow .boolean (.int r15) = .int r15 ∧ post r15 M16)) p0 (p1 - (48 : Int32)) M0)))))
set_option maxHeartbeats 4000000 in
set_option maxRecDepth 100000 in
theorem c_X0_accepts (l : Launch) (G : k_G) (M0 : k_M) (sz : Nat) (post : Int32 → k_M → Prop) (p0 : Nat) (p1 : Int32) (h : wp_X0_accepts G post p0 p1 M0) : Met l yX0_accepts wsX0_accepts ({ frames := 2, cells := 0, slots := 0, locals := 43 }) (va_Pc [.ref p0, .int p1] (kPre G M0 sz)) (va_Qi post (kB G M0 sz) (kA M0 sz)) 0 0 (kA M0 sz) := by
  refine Met.ofW (cc := cX0_accepts) (maxL := 2) (ret := (some .boolean)) (by decide) rfl ?_
  intro p e s m args below meth c s₁ B hml hv
  obtain ⟨rfl, hsz, hR, hE⟩ := hv
  have hx := B.exec
  have hb := B.bytes
  have hr := B.returns
  have hts := atoms_spec (ws := wsX0_accepts) B.pre
  have hown : s.vm.findClass RX0 = some m.cls := findClass_of_methodNamed B.named
  have hlocks := B.notSynchronized
  subst hsz
  have hK := hE.1
  have hA : ∀ q, s.heap.size ≤ q → kA M0 s.heap.size q := kA.new
  have hS : va_S (kA M0 s.heap.size) s.heap s.heap [] := va_S.rf
  have b21 : ∀ (x0 : Nat) (x1 : Int32) (M : k_M) (H : Heap) (locs : List Loc) (ls : Array Slot), wp_X0_accepts_b21 G post x0 x1 M → lv_has ls 2 [(0, .ref x0), (1, .int x1)] → kR G M (kA M0 s.heap.size) H → va_S (kA M0 s.heap.size) s.heap H locs → W p l e (headSpec wsX0_accepts ({ frames := 2, cells := 0, slots := 0, locals := 43 })).room s m ([.ref p0, .int p1] : List Value).toArray below meth c H locs 0 0 (MQ below (va_Qi post (kB G M0 s.heap.size) (kA M0 s.heap.size)) ([.ref p0, .int p1] : List Value).toArray s 0 0 (kA M0 s.heap.size)) (F0 m 21 ls []) := by
    intro x0 x1 M H locs ls h hl hR hS
    refine lv_iload_n hx hb dX0_accepts_21 rfl (lv_at hl 1 rfl) ?_
    refine lv_bipush (v := (40 : Int32)) hx hb dX0_accepts_22 (by decide) ?_
    obtain ⟨ha, hb2⟩ := h
    refine lv_icmp_ne (tgt := 32) hx hb dX0_accepts_24 (by decide) (fun hc => ?_) (fun hc => ?_)
    · replace h := ha hc
      refine lv_iload_n hx hb dX0_accepts_32 rfl (lv_at hl 1 rfl) ?_
      refine lv_bipush (v := (44 : Int32)) hx hb dX0_accepts_33 (by decide) ?_
      obtain ⟨ha, hb2⟩ := h
      refine lv_icmp_ne (tgt := 43) hx hb dX0_accepts_35 (by decide) (fun hc => ?_) (fun hc => ?_)
      · replace h := ha hc
        refine lv_iload_n hx hb dX0_accepts_43 rfl (lv_at hl 1 rfl) ?_
        refine lv_bipush (v := (41 : Int32)) hx hb dX0_accepts_44 (by decide) ?_
        obtain ⟨ha, hb2⟩ := h
        refine lv_icmp_ne (tgt := 60) hx hb dX0_accepts_46 (by decide) (fun hc => ?_) (fun hc => ?_)
        · replace h := ha hc
          refine lv_iconst (v := (0 : Int32)) hx hb dX0_accepts_60 (by decide) ?_
          exact k_reti hx hb hr hlocks (by decide) hR hS h dX0_accepts_61
        · replace h := hb2 hc
          refine lv_aload_n hx hb dX0_accepts_49 rfl (lv_at hl 0 rfl) ?_
          obtain ⟨fs4, hm3, h⟩ := h
          refine k_calli0 (va_runV (As := []) (rest := []) ⟨hx, hb, hml, hown, hts⟩ (c_X0_acceptsClosing l G _ _ _ x0 h) (cwV 0 hts gX0_accepts_X0_acceptsClosing rfl rfl rfl (by decide +kernel) ⟨Nat.le_of_ble_eq_true rfl, Nat.le_of_ble_eq_true rfl⟩) (k_preV (q := (RX0, TX0, 7)) hm3 rfl hR hS hA hE) rfl rfl hl.1 rfl (lv_room (Nat.le_of_ble_eq_true rfl)) dX0_accepts_50 ⟨Nat.zero_le _, Nat.zero_le _⟩) hR hS hA (fun r1 M2 H locs h hR hS => ?_)
          obtain ⟨ha, hb2⟩ := h
          refine lv_if_eq (tgt := 60) hx hb dX0_accepts_53 (by decide) (fun hc => ?_) (fun hc => ?_)
          · replace h := ha hc
            refine lv_iconst (v := (0 : Int32)) hx hb dX0_accepts_60 (by decide) ?_
            exact k_reti hx hb hr hlocks (by decide) hR hS h dX0_accepts_61
          · replace h := hb2 hc
            refine lv_iconst (v := (1 : Int32)) hx hb dX0_accepts_56 (by decide) ?_
            refine lv_goto (tgt := 61) hx hb dX0_accepts_57 (by decide) ?_
            exact k_reti hx hb hr hlocks (by decide) hR hS h dX0_accepts_61
      · replace h := hb2 hc
        refine lv_aload_n hx hb dX0_accepts_38 rfl (lv_at hl 0 rfl) ?_
        obtain ⟨fs8, hm7, h⟩ := h
        refine k_calli0 (va_runV (As := []) (rest := []) ⟨hx, hb, hml, hown, hts⟩ (c_X0_acceptsComma l G _ _ _ x0 h) (cwV 0 hts gX0_accepts_X0_acceptsComma rfl rfl rfl (by decide +kernel) ⟨Nat.le_of_ble_eq_true rfl, Nat.le_of_ble_eq_true rfl⟩) (k_preV (q := (RX0, TX0, 7)) hm7 rfl hR hS hA hE) rfl rfl hl.1 rfl (lv_room (Nat.le_of_ble_eq_true rfl)) dX0_accepts_39 ⟨Nat.zero_le _, Nat.zero_le _⟩) hR hS hA (fun r5 M6 H locs h hR hS => ?_)
        obtain ⟨hn9, h⟩ := h
        exact k_reti hx hb hr hlocks hn9 hR hS h dX0_accepts_42
    · replace h := hb2 hc
      refine lv_aload_n hx hb dX0_accepts_27 rfl (lv_at hl 0 rfl) ?_
      obtain ⟨fs13, hm12, h⟩ := h
      refine k_calli0 (va_runV (As := []) (rest := []) ⟨hx, hb, hml, hown, hts⟩ (c_X0_acceptsOpening l G _ _ _ x0 h) (cwV 0 hts gX0_accepts_X0_acceptsOpening rfl rfl rfl (by decide +kernel) ⟨Nat.le_of_ble_eq_true rfl, Nat.le_of_ble_eq_true rfl⟩) (k_preV (q := (RX0, TX0, 7)) hm12 rfl hR hS hA hE) rfl rfl hl.1 rfl (lv_room (Nat.le_of_ble_eq_true rfl)) dX0_accepts_28 ⟨Nat.zero_le _, Nat.zero_le _⟩) hR hS hA (fun r10 M11 H locs h hR hS => ?_)
      obtain ⟨hn14, h⟩ := h
      exact k_reti hx hb hr hlocks hn14 hR hS h dX0_accepts_31
  have hl := lv_entry ([.ref p0, .int p1]) (n := 2) (Nat.le_of_ble_eq_true rfl)
  rw [lg_entry_eq]
  generalize (lg_sl ([.ref p0, .int p1]) ++ List.replicate (2 - (lg_sl ([.ref p0, .int p1])).length) Slot.unset).toArray = ls at hl ⊢
  have hl : lv_has ls 2 [(0, .ref p0), (1, .int p1)] := hl
  have hR0 := hR
  refine lv_iload_n hx hb dX0_accepts_0 rfl (lv_at hl 1 rfl) ?_
  refine lv_bipush (v := (48 : Int32)) hx hb dX0_accepts_1 (by decide) ?_
  obtain ⟨ha, hb2⟩ := h
  refine lv_icmp_lt (tgt := 21) hx hb dX0_accepts_3 (by decide) (fun hc => ?_) (fun hc => ?_)
  · replace h := ha hc
    exact b21 _ _ _ _ _ _ h (lv_sub hl [0, 1] rfl) hR hS
  · replace h := hb2 hc
    refine lv_iload_n hx hb dX0_accepts_6 rfl (lv_at hl 1 rfl) ?_
    refine lv_bipush (v := (57 : Int32)) hx hb dX0_accepts_7 (by decide) ?_
    obtain ⟨ha, hb2⟩ := h
    refine lv_icmp_gt (tgt := 21) hx hb dX0_accepts_9 (by decide) (fun hc => ?_) (fun hc => ?_)
    · replace h := ha hc
      exact b21 _ _ _ _ _ _ h (lv_sub hl [0, 1] rfl) hR hS
    · replace h := hb2 hc
      refine lv_aload_n hx hb dX0_accepts_12 rfl (lv_at hl 0 rfl) ?_
      refine lv_iload_n hx hb dX0_accepts_13 rfl (lv_at hl 1 rfl) ?_
      refine lv_bipush (v := (48 : Int32)) hx hb dX0_accepts_14 (by decide) ?_
      refine lv_isub hx hb dX0_accepts_16 ?_
      obtain ⟨fs18, hm17, h⟩ := h
      refine k_calli0 (va_runV (As := [.int (p1 - (48 : Int32))]) (rest := []) ⟨hx, hb, hml, hown, hts⟩ (c_X0_acceptsDigit l G _ _ _ p0 (p1 - (48 : Int32)) h) (cwV 1 hts gX0_accepts_X0_acceptsDigit rfl rfl rfl (by decide +kernel) ⟨Nat.le_of_ble_eq_true rfl, Nat.le_of_ble_eq_true rfl⟩) (k_preV (q := (RX0, TX0, 7)) hm17 rfl hR hS hA hE) rfl rfl hl.1 rfl (lv_room (Nat.le_of_ble_eq_true rfl)) dX0_accepts_17 ⟨Nat.zero_le _, Nat.zero_le _⟩) hR hS hA (fun r15 M16 H locs h hR hS => ?_)
      obtain ⟨hn19, h⟩ := h
      exact k_reti hx hb hr hlocks hn19 hR hS h dX0_accepts_20

def wp_X0_read_L18 (G : k_G) (post : Int32 → k_M → Prop) : Nat → Nat → Int32 → k_M → Prop
  | 0 => fun _ _ _ => False
  | n + 1 => fun x0 x1 M =>
  (∃ fs14 v15, M x0 = some (kO 1 fs14) ∧ fs14[2]? = some (.int v15) ∧
      ((v15 ≤ x1 →
      (∃ fs18 v19, M x0 = some (kO 1 fs18) ∧ fs18[4]? = some (.int v19) ∧
        ((¬ v19 = (16 : Int32) →
        (∃ fs22 v23, M x0 = some (kO 1 fs22) ∧ fs22[2]? = some (.int v23) ∧
          post v23 M)) ∧
        (v19 = (16 : Int32) →
        (∃ fs26 v27, M x0 = some (kO 1 fs26) ∧ fs26[5]? = some (.int v27) ∧
          ((v27 = 0 →
          (∃ fs30 v31, M x0 = some (kO 1 fs30) ∧ fs30[2]? = some (.int v31) ∧
            post v31 M)) ∧
          (¬ v27 = 0 →
          post (-6 : Int32) M))))))) ∧
      (¬ v15 ≤ x1 →
      (∃ fs34 v35, M x0 = some (kO 1 fs34) ∧ fs34[0]? = some (.ref v35) ∧
        (∃ n38 f39, M v35 = some (kC G n38 f39) ∧ vp_in x1 n38 ∧
        (∃ fs45, M x0 = some (kO 1 fs45) ∧ wp_X0_accepts G (fun r42 M43 =>
        ((¬ r42 = 0 →
        (wp_X0_read_L18 G post n) x0 (x1 + (1 : Int32)) M43) ∧
        (r42 = 0 →
        post x1 M43))) x0 (f39 (x1).toNatClampNeg) M))))))
def wp_X0_read (G : k_G) (post : Int32 → k_M → Prop) (p0 : Nat) (M0 : k_M) : Prop :=
  (∃ fs1, M0 p0 = some (kO 1 fs1) ∧ 3 < fs1.length ∧ ∀ M2 : k_M, M2 = va_up M0 p0 (some (kO 1 (fs1.set 3 (.int (0 : Int32))))) →
  (∃ fs5, M2 p0 = some (kO 1 fs5) ∧ 4 < fs5.length ∧ ∀ M6 : k_M, M6 = va_up M2 p0 (some (kO 1 (fs5.set 4 (.int (16 : Int32))))) →
  (∃ fs9, M6 p0 = some (kO 1 fs9) ∧ 5 < fs9.length ∧ ∀ M10 : k_M, M10 = va_up M6 p0 (some (kO 1 (fs9.set 5 (.int (0 : Int32))))) →
  ∃ k13, wp_X0_read_L18 G post k13 p0 (0 : Int32) M10)))
theorem in_X0_read_X0 : ∀ w ∈ wsX00, w ∈ wsX0_read := by decide +kernel
set_option maxHeartbeats 4000000 in
set_option maxRecDepth 100000 in
theorem c_X0_read (l : Launch) (G : k_G) (M0 : k_M) (sz : Nat) (post : Int32 → k_M → Prop) (p0 : Nat) (h : wp_X0_read G post p0 M0) : Met l yX0_read wsX0_read ({ frames := 3, cells := 0, slots := 0, locals := 64 }) (va_Pc [.ref p0] (kPre G M0 sz)) (va_Qi post (kB G M0 sz) (kA M0 sz)) 0 0 (kA M0 sz) := by
  refine Met.ofW (cc := cX0_read) (maxL := 2) (ret := (some .int)) (by decide) rfl ?_
  intro p e s m args below meth c s₁ B hml hv
  obtain ⟨rfl, hsz, hR, hE⟩ := hv
  have hx := B.exec
  have hb := B.bytes
  have hr := B.returns
  have hts := atoms_spec (ws := wsX0_read) B.pre
  have hown : s.vm.findClass RX0 = some m.cls := findClass_of_methodNamed B.named
  have hlocks := B.notSynchronized
  subst hsz
  have hK := hE.1
  have hA : ∀ q, s.heap.size ≤ q → kA M0 s.heap.size q := kA.new
  have hS : va_S (kA M0 s.heap.size) s.heap s.heap [] := va_S.rf
  have hw1 := hts (.fieldLink RX0 28 "ForkedStamps$Pad" "first" "I") (by decide +kernel)
  have hw2 := hts (.fieldLink RX0 31 "ForkedStamps$Pad" "size" "I") (by decide +kernel)
  have hw3 := hts (.fieldLink RX0 34 "ForkedStamps$Pad" "stage" "I") (by decide +kernel)
  have hw4 := hts (.fieldLink RX0 22 "ForkedStamps$Pad" "length" "I") (by decide +kernel)
  have hw5 := hts (.fieldLink RX0 9 "ForkedStamps$Pad" "characters" "[C") (by decide +kernel)
  have L18 : ∀ (n : Nat), ∀ (x0 : Nat) (x1 : Int32) (M : k_M) (H : Heap) (locs : List Loc) (ls : Array Slot), wp_X0_read_L18 G post n x0 x1 M → lv_has ls 2 [(0, .ref x0), (1, .int x1)] → kR G M (kA M0 s.heap.size) H → va_S (kA M0 s.heap.size) s.heap H locs → W p l e (headSpec wsX0_read ({ frames := 3, cells := 0, slots := 0, locals := 64 })).room s m ([.ref p0] : List Value).toArray below meth c H locs 0 0 (MQ below (va_Qi post (kB G M0 s.heap.size) (kA M0 s.heap.size)) ([.ref p0] : List Value).toArray s 0 0 (kA M0 s.heap.size)) (F0 m 18 ls []) := by
    intro n
    induction n with
    | zero =>
      intro  x0 x1 M H locs ls h
      exact False.elim h
    | succ n ih =>
      intro  x0 x1 M H locs ls h hl hR hS
      refine lv_iload_n hx hb dX0_read_18 rfl (lv_at hl 1 rfl) ?_
      refine lv_aload_n hx hb dX0_read_19 rfl (lv_at hl 0 rfl) ?_
      obtain ⟨fs14, v15, hm16, hv17, h⟩ := h
      refine k_get (ci := 1) (C := RX0) (T := TX0) (N := 7) hx hb hts in_X0_read_X0 hown hK hR hm16 rfl 2 (by decide) hw4 (fun _ h9 => h9) hv17 dX0_read_20 ?_
      obtain ⟨ha, hb2⟩ := h
      refine lv_icmp_ge (tgt := 47) hx hb dX0_read_23 (by decide) (fun hc => ?_) (fun hc => ?_)
      · replace h := ha hc
        refine lv_aload_n hx hb dX0_read_47 rfl (lv_at hl 0 rfl) ?_
        obtain ⟨fs18, v19, hm20, hv21, h⟩ := h
        refine k_get (ci := 1) (C := RX0) (T := TX0) (N := 7) hx hb hts in_X0_read_X0 hown hK hR hm20 rfl 4 (by decide) hw2 (fun _ h9 => h9) hv21 dX0_read_48 ?_
        refine lv_bipush (v := (16 : Int32)) hx hb dX0_read_51 (by decide) ?_
        obtain ⟨ha, hb2⟩ := h
        refine lv_icmp_ne (tgt := 68) hx hb dX0_read_53 (by decide) (fun hc => ?_) (fun hc => ?_)
        · replace h := ha hc
          refine lv_aload_n hx hb dX0_read_68 rfl (lv_at hl 0 rfl) ?_
          obtain ⟨fs22, v23, hm24, hv25, h⟩ := h
          refine k_get (ci := 1) (C := RX0) (T := TX0) (N := 7) hx hb hts in_X0_read_X0 hown hK hR hm24 rfl 2 (by decide) hw4 (fun _ h9 => h9) hv25 dX0_read_69 ?_
          exact k_reti hx hb hr hlocks rfl hR hS h dX0_read_72
        · replace h := hb2 hc
          refine lv_aload_n hx hb dX0_read_56 rfl (lv_at hl 0 rfl) ?_
          obtain ⟨fs26, v27, hm28, hv29, h⟩ := h
          refine k_get (ci := 1) (C := RX0) (T := TX0) (N := 7) hx hb hts in_X0_read_X0 hown hK hR hm28 rfl 5 (by decide) hw3 (fun _ h9 => h9) hv29 dX0_read_57 ?_
          obtain ⟨ha, hb2⟩ := h
          refine lv_if_eq (tgt := 68) hx hb dX0_read_60 (by decide) (fun hc => ?_) (fun hc => ?_)
          · replace h := ha hc
            refine lv_aload_n hx hb dX0_read_68 rfl (lv_at hl 0 rfl) ?_
            obtain ⟨fs30, v31, hm32, hv33, h⟩ := h
            refine k_get (ci := 1) (C := RX0) (T := TX0) (N := 7) hx hb hts in_X0_read_X0 hown hK hR hm32 rfl 2 (by decide) hw4 (fun _ h9 => h9) hv33 dX0_read_69 ?_
            exact k_reti hx hb hr hlocks rfl hR hS h dX0_read_72
          · replace h := hb2 hc
            refine lv_bipush (v := (-6 : Int32)) hx hb dX0_read_63 (by decide) ?_
            refine lv_goto (tgt := 72) hx hb dX0_read_65 (by decide) ?_
            exact k_reti hx hb hr hlocks rfl hR hS h dX0_read_72
      · replace h := hb2 hc
        refine lv_aload_n hx hb dX0_read_26 rfl (lv_at hl 0 rfl) ?_
        refine lv_aload_n hx hb dX0_read_27 rfl (lv_at hl 0 rfl) ?_
        obtain ⟨fs34, v35, hm36, hv37, h⟩ := h
        refine k_get (ci := 1) (C := RX0) (T := TX0) (N := 7) hx hb hts in_X0_read_X0 hown hK hR hm36 rfl 0 (by decide) hw5 (fun _ h9 => h9) hv37 dX0_read_28 ?_
        refine lv_iload_n hx hb dX0_read_31 rfl (lv_at hl 1 rfl) ?_
        obtain ⟨n38, f39, hm40, hv41, h⟩ := h
        refine k_cald hx hb hK hR hm40 hv41 dX0_read_32 ?_
        obtain ⟨fs45, hm44, h⟩ := h
        refine k_calli0 (va_runV (As := [.int (f39 (x1).toNatClampNeg)]) (rest := []) ⟨hx, hb, hml, hown, hts⟩ (c_X0_accepts l G _ _ _ x0 (f39 (x1).toNatClampNeg) h) (cwV 1 hts gX0_read_X0_accepts rfl rfl rfl (by decide +kernel) ⟨Nat.le_of_ble_eq_true rfl, Nat.le_of_ble_eq_true rfl⟩) (k_preV (q := (RX0, TX0, 7)) hm44 rfl hR hS hA hE) rfl rfl hl.1 rfl (lv_room (Nat.le_of_ble_eq_true rfl)) dX0_read_33 ⟨Nat.zero_le _, Nat.zero_le _⟩) hR hS hA (fun r42 M43 H locs h hR hS => ?_)
        obtain ⟨ha, hb2⟩ := h
        refine lv_if_ne (tgt := 41) hx hb dX0_read_36 (by decide) (fun hc => ?_) (fun hc => ?_)
        · replace h := ha hc
          refine lv_iinc (v := (x1 + (1 : Int32))) (lv' := [(1, .int (x1 + (1 : Int32))), (0, .ref x0)]) hx hb dX0_read_41 hl (k := 1) rfl rfl (by decide) rfl (fun ls hl => ?_)
          refine lv_goto (tgt := 18) hx hb dX0_read_44 (by decide) ?_
          exact ih _ _ _ _ _ _ h (lv_sub hl [1, 0] rfl) hR hS
        · replace h := hb2 hc
          refine lv_iload_n hx hb dX0_read_39 rfl (lv_at hl 1 rfl) ?_
          exact k_reti hx hb hr hlocks rfl hR hS h dX0_read_40
  have hl := lv_entry ([.ref p0]) (n := 2) (Nat.le_of_ble_eq_true rfl)
  rw [lg_entry_eq]
  generalize (lg_sl ([.ref p0]) ++ List.replicate (2 - (lg_sl ([.ref p0])).length) Slot.unset).toArray = ls at hl ⊢
  have hl : lv_has ls 2 [(0, .ref p0)] := hl
  have hR0 := hR
  refine lv_aload_n hx hb dX0_read_0 rfl (lv_at hl 0 rfl) ?_
  refine lv_iconst (v := (0 : Int32)) hx hb dX0_read_1 (by decide) ?_
  obtain ⟨fs1, hm3, hk4, h⟩ := h
  replace h := h _ rfl
  refine k_put (ci := 1) (v := .int (0 : Int32)) (ty := .int) (C := RX0) (T := TX0) (N := 7) hx hb hts in_X0_read_X0 tyX0 tyX0_ok nmX0 hown hK hR hS hm3 rfl 3 (by decide) hw1 (fun _ h9 => h9) rfl (by decide +kernel) rfl rfl hk4 dX0_read_2 (fun H locs hR hS => ?_)
  refine lv_aload_n hx hb dX0_read_5 rfl (lv_at hl 0 rfl) ?_
  refine lv_bipush (v := (16 : Int32)) hx hb dX0_read_6 (by decide) ?_
  obtain ⟨fs5, hm7, hk8, h⟩ := h
  replace h := h _ rfl
  refine k_put (ci := 1) (v := .int (16 : Int32)) (ty := .int) (C := RX0) (T := TX0) (N := 7) hx hb hts in_X0_read_X0 tyX0 tyX0_ok nmX0 hown hK hR hS hm7 rfl 4 (by decide) hw2 (fun _ h9 => h9) rfl (by decide +kernel) rfl rfl hk8 dX0_read_8 (fun H locs hR hS => ?_)
  refine lv_aload_n hx hb dX0_read_11 rfl (lv_at hl 0 rfl) ?_
  refine lv_iconst (v := (0 : Int32)) hx hb dX0_read_12 (by decide) ?_
  obtain ⟨fs9, hm11, hk12, h⟩ := h
  replace h := h _ rfl
  refine k_put (ci := 1) (v := .int (0 : Int32)) (ty := .int) (C := RX0) (T := TX0) (N := 7) hx hb hts in_X0_read_X0 tyX0 tyX0_ok nmX0 hown hK hR hS hm11 rfl 5 (by decide) hw3 (fun _ h9 => h9) rfl (by decide +kernel) rfl rfl hk12 dX0_read_13 (fun H locs hR hS => ?_)
  refine lv_iconst (v := (0 : Int32)) hx hb dX0_read_16 (by decide) ?_
  refine lv_istore_n (lv' := [(1, .int (0 : Int32)), (0, .ref p0)]) hx hb dX0_read_17 rfl hl (by decide) rfl (fun ls hl => ?_)
  obtain ⟨k13, h⟩ := h
  exact L18 k13 _ _ _ _ _ _ h (lv_sub hl [1, 0] rfl) hR hS
