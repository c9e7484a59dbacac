def wp_X0_init (G : k_G) (mc ms : Nat) (post : k_M → Prop) (p0 : Nat) (M0 : k_M) : Prop :=
  (∃ N1 : Nat, ¬ (64 : Int32) < 0 ∧ ((64 : Int32)).toNatClampNeg = N1 ∧ N1 * 2 ≤ 536870912 ∧ 0 + 1 ≤ mc ∧ 0 + N1 ≤ ms ∧ ∀ (q2 : Nat) (M3 : k_M), M0 q2 = none → M3 = va_up M0 q2 (some (kC G N1 (fun _ => 0))) →
  (∃ fs9, M3 p0 = some (kO 1 fs9) ∧ 0 < fs9.length ∧ ∀ M10 : k_M, M10 = va_up M3 p0 (some (kO 1 (fs9.set 0 (.ref q2)))) →
  ((0 + 1) + 1 ≤ mc ∧ (0 + N1) + 3 ≤ ms ∧ ∀ (q13 : Nat) (M14 : k_M), M10 q13 = none → M14 = va_up M10 q13 (some (kO 2 [.null, .long 0, .long 0])) →
  (∃ mc17 ms18 : Nat, ((0 + 1) + 1) + mc17 ≤ mc ∧ ((0 + N1) + 3) + ms18 ≤ ms ∧ wp_X1_init G mc17 ms18 (fun M20 =>
  (∃ fs24, M20 p0 = some (kO 1 fs24) ∧ 1 < fs24.length ∧ ∀ M25 : k_M, M25 = va_up M20 p0 (some (kO 1 (fs24.set 1 (.ref q13)))) →
  (((0 + 1) + 1) + mc17) ≤ mc ∧ (((0 + N1) + 3) + ms18) ≤ ms ∧ post M25)) q13 M14))))
theorem in_X0_init_X0 : ∀ w ∈ wsX00, w ∈ wsX0_init := by decide +kernel
theorem in_X0_init_X1 : ∀ w ∈ wsX10, w ∈ wsX0_init := by decide +kernel
set_option maxHeartbeats 4000000 in
set_option maxRecDepth 100000 in
theorem c_X0_init (l : Launch) (G : k_G) (mc ms : Nat) (M0 : k_M) (sz : Nat) (post : k_M → Prop) (p0 : Nat) (h : wp_X0_init G mc ms post p0 M0) : Met l yX0_init wsX0_init ({ frames := 2, cells := mc, slots := ms, locals := 32 }) (va_Pc [.ref p0] (kPre G M0 sz)) (va_Qv post (kB G M0 sz) (kA M0 sz)) mc ms (kA M0 sz) := by
  refine Met.ofW (cc := cX0_init) (maxL := 1) (ret := none) (by decide) rfl ?_
  intro p e s m args below meth c s₁ B hml hv
  obtain ⟨rfl, hsz, hR, hE⟩ := hv
  have hx := B.exec
  have hb := B.bytes
  have hr := B.returns
  have hts := atoms_spec (ws := wsX0_init) B.pre
  have hown : s.vm.findClass RX0 = some m.cls := findClass_of_methodNamed B.named
  have hlocks := B.notSynchronized
  have hin0 : meth.name = "<init>" := (name_of_methodNamed B.named B.method).1
  subst hsz
  have hK := hE.1
  have hA : ∀ q, s.heap.size ≤ q → kA M0 s.heap.size q := kA.new
  have hS : va_S (kA M0 s.heap.size) s.heap s.heap [] := va_S.rf
  have hw1 := hts (.methodLink RX0 3 objectInit) (by decide +kernel)
  have hw2 := hts (.instanceMethod objectInit) (by decide +kernel)
  have hw3 := hts (.code objectInit ⟨#[0xb1]⟩ 1 none) (by decide +kernel)
  have hw4 := hts (.arrayClass .char) (by decide +kernel)
  have hw5 := hts (.fieldLink RX0 9 "ForkedStamps$Pad" "characters" "[C") (by decide +kernel)
  have hw6 := hts (.classLink RX0 15 RX1) (by decide +kernel)
  have hw7 := hts (.instantiable RX1 3) (by decide +kernel)
  have hw8 := hts (.initialized RX1) (by decide +kernel)
  have hw9 := hts (.instanceMethod yX1_init) (by decide +kernel)
  have hw10 := hts (.fieldLink RX0 18 "ForkedStamps$Pad" "stamp" "LForkedStamps$Stamp;") (by decide +kernel)
  have hl := lv_entry ([.ref p0]) (n := 1) (Nat.le_of_ble_eq_true rfl)
  rw [lg_entry_eq]
  generalize (lg_sl ([.ref p0]) ++ List.replicate (1 - (lg_sl ([.ref p0])).length) Slot.unset).toArray = ls at hl ⊢
  have hl : lv_has ls 1 [(0, .ref p0)] := hl
  have hR0 := hR
  refine lv_aload_n hx hb dX0_init_0 rfl (lv_at hl 0 rfl) ?_
  refine W.objInit hx hb hown hw1 hw2 hw3 rfl (by rw [hml]; exact hl.1) rfl dX0_init_1 (Nat.le_of_ble_eq_true rfl) (Nat.le_of_ble_eq_true rfl) ?_
  refine W.eq (g2 := F0 m 4 ls []) rfl ?_
  refine lv_aload_n hx hb dX0_init_4 rfl (lv_at hl 0 rfl) ?_
  refine lv_bipush (v := (64 : Int32)) hx hb dX0_init_5 (by decide) ?_
  obtain ⟨N1, hn4, hn5, hn6, hn7, hn8, h⟩ := h
  refine k_newa (atype := .char) (ty := .char) (a0 := (N1, .inl (fun _ => 0))) hx hb hw4 rfl 1 rfl hK hR hS hA (fun _ => rfl) hn4 hn5 hn6 hn7 hn8 dX0_init_7 (fun q2 H hq hR hS => ?_)
  replace h := h q2 _ hq rfl
  obtain ⟨fs9, hm11, hk12, h⟩ := h
  replace h := h _ rfl
  refine k_putF (ci := 1) (v := .ref q2) (ty := .array .char) (C := RX0) (T := TX0) (N := 7) hx hb hts in_X0_init_X0 tyX0 tyX0_ok nmX0 hown hK hR hS hm11 rfl 0 (by decide) hw5 (fun _ h9 => h9) rfl hin0 rfl (by decide +kernel) rfl rfl hk12 dX0_init_9 (fun H locs hR hS => ?_)
  refine lv_aload_n hx hb dX0_init_12 rfl (lv_at hl 0 rfl) ?_
  obtain ⟨hn15, hn16, h⟩ := h
  refine k_new (ci := 2) (fs := [.null, .long 0, .long 0]) (C := RX1) (T := TX1) (N := 3) hx hb hts in_X0_init_X1 tyX1 tyX1_ok hown hw6 hw7 hw8 hK hR hS hA rfl (fun j hj => by rcases (show j = 0 ∨ j = 1 ∨ j = 2 by omega) with rfl | rfl | rfl <;> rfl) hn15 hn16 dX0_init_13 (fun q13 H hq hR hS => ?_)
  replace h := h q13 _ hq rfl
  refine lv_dup hx hb dX0_init_16 rfl ?_
  obtain ⟨mc17, ms18, hc22, hc23, h⟩ := h
  refine k_callv (va_runIN (As := []) (rest := [.ref q13, .ref p0]) ⟨hx, hb, hml, hown, hts⟩ (c_X1_init l G mc17 ms18 _ _ _ q13 h) ⟨va_cnB 0 hts gX0_init_X1_init_n17 rfl rfl rfl hE.2.2.2.2.1 hw8 (by decide +kernel) ⟨Nat.le_of_ble_eq_true rfl, Nat.le_of_ble_eq_true rfl⟩, rfl, hw9⟩ (k_preS hR hS hA hE) rfl rfl hl.1 rfl (lv_room (Nat.le_of_ble_eq_true rfl)) dX0_init_17 ⟨hc22, hc23⟩) hR hS hA (fun M20 H locs h hR hS => ?_)
  obtain ⟨fs24, hm26, hk27, h⟩ := h
  replace h := h _ rfl
  refine k_putF (ci := 1) (v := .ref q13) (ty := .object "ForkedStamps$Stamp") (C := RX0) (T := TX0) (N := 7) hx hb hts in_X0_init_X0 tyX0 tyX0_ok nmX0 hown hK hR hS hm26 rfl 1 (by decide) hw10 (fun _ h9 => h9) rfl hin0 rfl (by decide +kernel) rfl rfl hk27 dX0_init_20 (fun H locs hR hS => ?_)
  obtain ⟨hwc, hws, h⟩ := h
  refine W.widen (k := mc) (n := ms) hwc hws ?_
  exact k_retv hx hb hr hlocks hR hS h dX0_init_23
