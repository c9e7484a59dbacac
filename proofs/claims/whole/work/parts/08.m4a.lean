def wp_X4_init (G : k_G) (mc ms : Nat) (post : k_M → Prop) (p0 : Nat) (M0 : k_M) : Prop :=
  (∃ N1 : Nat, ¬ (459 : Int32) < 0 ∧ ((459 : Int32)).toNatClampNeg = N1 ∧ N1 * 4 ≤ 536870912 ∧ 0 + 1 ≤ mc ∧ 0 + N1 ≤ ms ∧ ∀ (q2 : Nat) (M3 : k_M), M0 q2 = none → M3 = va_up M0 q2 (some (kI G N1 (fun _ => 0))) →
  (∃ fs9, M3 p0 = some (kO 5 fs9) ∧ 0 < fs9.length ∧ ∀ M10 : k_M, M10 = va_up M3 p0 (some (kO 5 (fs9.set 0 (.ref q2)))) →
  (∃ N13 : Nat, ¬ (2754 : Int32) < 0 ∧ ((2754 : Int32)).toNatClampNeg = N13 ∧ N13 * 4 ≤ 536870912 ∧ (0 + 1) + 1 ≤ mc ∧ (0 + N1) + N13 ≤ ms ∧ ∀ (q14 : Nat) (M15 : k_M), M10 q14 = none → M15 = va_up M10 q14 (some (kI G N13 (fun _ => 0))) →
  (∃ fs21, M15 p0 = some (kO 5 fs21) ∧ 1 < fs21.length ∧ ∀ M22 : k_M, M22 = va_up M15 p0 (some (kO 5 (fs21.set 1 (.ref q14)))) →
  (∃ N25 : Nat, ¬ (918 : Int32) < 0 ∧ ((918 : Int32)).toNatClampNeg = N25 ∧ N25 * 4 ≤ 536870912 ∧ ((0 + 1) + 1) + 1 ≤ mc ∧ ((0 + N1) + N13) + N25 ≤ ms ∧ ∀ (q26 : Nat) (M27 : k_M), M22 q26 = none → M27 = va_up M22 q26 (some (kI G N25 (fun _ => 0))) →
  (∃ fs33, M27 p0 = some (kO 5 fs33) ∧ 3 < fs33.length ∧ ∀ M34 : k_M, M34 = va_up M27 p0 (some (kO 5 (fs33.set 3 (.ref q26)))) →
  (∃ N37 : Nat, ¬ (2 : Int32) < 0 ∧ ((2 : Int32)).toNatClampNeg = N37 ∧ N37 * 4 ≤ 536870912 ∧ (((0 + 1) + 1) + 1) + 1 ≤ mc ∧ (((0 + N1) + N13) + N25) + N37 ≤ ms ∧ ∀ (q38 : Nat) (M39 : k_M), M34 q38 = none → M39 = va_up M34 q38 (some (kI G N37 (fun _ => 0))) →
  (∃ fs45, M39 p0 = some (kO 5 fs45) ∧ 4 < fs45.length ∧ ∀ M46 : k_M, M46 = va_up M39 p0 (some (kO 5 (fs45.set 4 (.ref q38)))) →
  (∃ N49 : Nat, ¬ (64 : Int32) < 0 ∧ ((64 : Int32)).toNatClampNeg = N49 ∧ N49 * 4 ≤ 536870912 ∧ ((((0 + 1) + 1) + 1) + 1) + 1 ≤ mc ∧ ((((0 + N1) + N13) + N25) + N37) + N49 ≤ ms ∧ ∀ (q50 : Nat) (M51 : k_M), M46 q50 = none → M51 = va_up M46 q50 (some (kI G N49 (fun _ => 0))) →
  (∃ fs57, M51 p0 = some (kO 5 fs57) ∧ 5 < fs57.length ∧ ∀ M58 : k_M, M58 = va_up M51 p0 (some (kO 5 (fs57.set 5 (.ref q50)))) →
  (∃ N61 : Nat, ¬ (21 : Int32) < 0 ∧ ((21 : Int32)).toNatClampNeg = N61 ∧ N61 * 4 ≤ 536870912 ∧ (((((0 + 1) + 1) + 1) + 1) + 1) + 1 ≤ mc ∧ (((((0 + N1) + N13) + N25) + N37) + N49) + N61 ≤ ms ∧ ∀ (q62 : Nat) (M63 : k_M), M58 q62 = none → M63 = va_up M58 q62 (some (kI G N61 (fun _ => 0))) →
  (∃ fs69, M63 p0 = some (kO 5 fs69) ∧ 7 < fs69.length ∧ ∀ M70 : k_M, M70 = va_up M63 p0 (some (kO 5 (fs69.set 7 (.ref q62)))) →
  (∃ N73 : Nat, ¬ (21 : Int32) < 0 ∧ ((21 : Int32)).toNatClampNeg = N73 ∧ N73 * 4 ≤ 536870912 ∧ ((((((0 + 1) + 1) + 1) + 1) + 1) + 1) + 1 ≤ mc ∧ ((((((0 + N1) + N13) + N25) + N37) + N49) + N61) + N73 ≤ ms ∧ ∀ (q74 : Nat) (M75 : k_M), M70 q74 = none → M75 = va_up M70 q74 (some (kI G N73 (fun _ => 0))) →
  (∃ fs81, M75 p0 = some (kO 5 fs81) ∧ 8 < fs81.length ∧ ∀ M82 : k_M, M82 = va_up M75 p0 (some (kO 5 (fs81.set 8 (.ref q74)))) →
  (∃ N85 : Nat, ¬ (8 : Int32) < 0 ∧ ((8 : Int32)).toNatClampNeg = N85 ∧ N85 * 4 ≤ 536870912 ∧ (((((((0 + 1) + 1) + 1) + 1) + 1) + 1) + 1) + 1 ≤ mc ∧ (((((((0 + N1) + N13) + N25) + N37) + N49) + N61) + N73) + N85 ≤ ms ∧ ∀ (q86 : Nat) (M87 : k_M), M82 q86 = none → M87 = va_up M82 q86 (some (kI G N85 (fun _ => 0))) →
  (∃ fs93, M87 p0 = some (kO 5 fs93) ∧ 9 < fs93.length ∧ ∀ M94 : k_M, M94 = va_up M87 p0 (some (kO 5 (fs93.set 9 (.ref q86)))) →
  (∃ N97 : Nat, ¬ (8 : Int32) < 0 ∧ ((8 : Int32)).toNatClampNeg = N97 ∧ N97 * 4 ≤ 536870912 ∧ ((((((((0 + 1) + 1) + 1) + 1) + 1) + 1) + 1) + 1) + 1 ≤ mc ∧ ((((((((0 + N1) + N13) + N25) + N37) + N49) + N61) + N73) + N85) + N97 ≤ ms ∧ ∀ (q98 : Nat) (M99 : k_M), M94 q98 = none → M99 = va_up M94 q98 (some (kI G N97 (fun _ => 0))) →
  (∃ fs105, M99 p0 = some (kO 5 fs105) ∧ 10 < fs105.length ∧ ∀ M106 : k_M, M106 = va_up M99 p0 (some (kO 5 (fs105.set 10 (.ref q98)))) →
  (∃ N109 : Nat, ¬ (128 : Int32) < 0 ∧ ((128 : Int32)).toNatClampNeg = N109 ∧ N109 * 4 ≤ 536870912 ∧ (((((((((0 + 1) + 1) + 1) + 1) + 1) + 1) + 1) + 1) + 1) + 1 ≤ mc ∧ (((((((((0 + N1) + N13) + N25) + N37) + N49) + N61) + N73) + N85) + N97) + N109 ≤ ms ∧ ∀ (q110 : Nat) (M111 : k_M), M106 q110 = none → M111 = va_up M106 q110 (some (kI G N109 (fun _ => 0))) →
  (∃ fs117, M111 p0 = some (kO 5 fs117) ∧ 11 < fs117.length ∧ ∀ M118 : k_M, M118 = va_up M111 p0 (some (kO 5 (fs117.set 11 (.ref q110)))) →
  (∃ fs121 v122, M118 p0 = some (kO 5 fs121) ∧ fs121[0]? = some (.ref v122) ∧
  (∃ n125 f126, M118 v122 = some (kI G n125 f126) ∧ vp_in (0 : Int32) n125 ∧ ∀ M127 : k_M, M127 = va_up M118 v122 (some (kI G n125 (upd f126 ((0 : Int32)).toNatClampNeg (1 : Int32)))) →
  (∃ fs130 v131, M127 p0 = some (kO 5 fs130) ∧ fs130[0]? = some (.ref v131) ∧
  (∃ n134 f135, M127 v131 = some (kI G n134 f135) ∧ vp_in (123 : Int32) n134 ∧ ∀ M136 : k_M, M136 = va_up M127 v131 (some (kI G n134 (upd f135 ((123 : Int32)).toNatClampNeg (65535 : Int32)))) →
  ((((((((((0 + 1) + 1) + 1) + 1) + 1) + 1) + 1) + 1) + 1) + 1) ≤ mc ∧ ((((((((((0 + N1) + N13) + N25) + N37) + N49) + N61) + N73) + N85) + N97) + N109) ≤ ms ∧ post M136))))))))))))))))))))))))
theorem in_X4_init_X4 : ∀ w ∈ wsX40, w ∈ wsX4_init := by decide +kernel
set_option maxHeartbeats 4000000 in
set_option maxRecDepth 100000 in
theorem c_X4_init (l : Launch) (G : k_G) (mc ms : Nat) (M0 : k_M) (sz : Nat) (post : k_M → Prop) (p0 : Nat) (h : wp_X4_init G mc ms post p0 M0) : Met l yX4_init wsX4_init ({ frames := 1, cells := mc, slots := ms, locals := 12 }) (va_Pc [.ref p0] (kPre G M0 sz)) (va_Qv post (kB G M0 sz) (kA M0 sz)) mc ms (kA M0 sz) := by
  refine Met.ofW (cc := cX4_init) (maxL := 1) (ret := none) (by decide) rfl ?_
  intro p e s m args below meth c s₁ B hml hv
  obtain ⟨rfl, hsz, hR, hE⟩ := hv
  have hx := B.exec
  have hb := B.bytes
  have hr := B.returns
  have hts := atoms_spec (ws := wsX4_init) B.pre
  have hown : s.vm.findClass RX4 = some m.cls := findClass_of_methodNamed B.named
  have hlocks := B.notSynchronized
  have hin0 : meth.name = "<init>" := (name_of_methodNamed B.named B.method).1
  subst hsz
  have hK := hE.1
  have hA : ∀ q, s.heap.size ≤ q → kA M0 s.heap.size q := kA.new
  have hS : va_S (kA M0 s.heap.size) s.heap s.heap [] := va_S.rf
  have hw1 := hts (.methodLink RX4 1 objectInit) (by decide +kernel)
  have hw2 := hts (.instanceMethod objectInit) (by decide +kernel)
  have hw3 := hts (.code objectInit ⟨#[0xb1]⟩ 1 none) (by decide +kernel)
  have hw4 := hts (.arrayClass .int) (by decide +kernel)
  have hw5 := hts (.fieldLink RX4 7 "ForkedStampsModel" "state" "[I") (by decide +kernel)
  have hw6 := hts (.fieldLink RX4 13 "ForkedStampsModel" "history" "[I") (by decide +kernel)
  have hw7 := hts (.fieldLink RX4 16 "ForkedStampsModel" "slots" "[I") (by decide +kernel)
  have hw8 := hts (.fieldLink RX4 19 "ForkedStampsModel" "isSaved" "[I") (by decide +kernel)
  have hw9 := hts (.fieldLink RX4 22 "ForkedStampsModel" "pad" "[I") (by decide +kernel)
  have hw10 := hts (.fieldLink RX4 25 "ForkedStampsModel" "tried" "[I") (by decide +kernel)
  have hw11 := hts (.fieldLink RX4 28 "ForkedStampsModel" "told" "[I") (by decide +kernel)
  have hw12 := hts (.fieldLink RX4 31 "ForkedStampsModel" "sizes" "[I") (by decide +kernel)
  have hw13 := hts (.fieldLink RX4 34 "ForkedStampsModel" "halves" "[I") (by decide +kernel)
  have hw14 := hts (.fieldLink RX4 37 "ForkedStampsModel" "text" "[I") (by decide +kernel)
  have hw15 := hts (.constant RX4 40 (65535)) (by decide +kernel)
  have hl := lv_entry ([.ref p0]) (n := 1) (Nat.le_of_ble_eq_true rfl)
  rw [lg_entry_eq]
  generalize (lg_sl ([.ref p0]) ++ List.replicate (1 - (lg_sl ([.ref p0])).length) Slot.unset).toArray = ls at hl ⊢
  have hl : lv_has ls 1 [(0, .ref p0)] := hl
  have hR0 := hR
  refine lv_aload_n hx hb dX4_init_0 rfl (lv_at hl 0 rfl) ?_
  refine W.objInit hx hb hown hw1 hw2 hw3 rfl (by rw [hml]; exact hl.1) rfl dX4_init_1 (Nat.le_of_ble_eq_true rfl) (Nat.le_of_ble_eq_true rfl) ?_
  refine W.eq (g2 := F0 m 4 ls []) rfl ?_
  refine lv_aload_n hx hb dX4_init_4 rfl (lv_at hl 0 rfl) ?_
  refine lv_sipush (v := (459 : Int32)) hx hb dX4_init_5 (by decide) ?_
  obtain ⟨N1, hn4, hn5, hn6, hn7, hn8, h⟩ := h
  refine k_newa (atype := .int) (ty := .int) (a0 := (N1, .inl (fun _ => 0))) hx hb hw4 rfl 0 rfl hK hR hS hA (fun _ => rfl) hn4 hn5 hn6 hn7 hn8 dX4_init_8 (fun q2 H hq hR hS => ?_)
  replace h := h q2 _ hq rfl
  obtain ⟨fs9, hm11, hk12, h⟩ := h
  replace h := h _ rfl
  refine k_putF (ci := 5) (v := .ref q2) (ty := .array .int) (C := RX4) (T := TX4) (N := 13) hx hb hts in_X4_init_X4 tyX4 tyX4_ok nmX4 hown hK hR hS hm11 rfl 0 (by decide) hw5 (fun _ h9 => h9) rfl hin0 rfl (by decide +kernel) rfl rfl hk12 dX4_init_10 (fun H locs hR hS => ?_)
  refine lv_aload_n hx hb dX4_init_13 rfl (lv_at hl 0 rfl) ?_
  refine lv_sipush (v := (2754 : Int32)) hx hb dX4_init_14 (by decide) ?_
  obtain ⟨N13, hn16, hn17, hn18, hn19, hn20, h⟩ := h
  refine k_newa (atype := .int) (ty := .int) (a0 := (N13, .inl (fun _ => 0))) hx hb hw4 rfl 0 rfl hK hR hS hA (fun _ => rfl) hn16 hn17 hn18 hn19 hn20 dX4_init_17 (fun q14 H hq hR hS => ?_)
  replace h := h q14 _ hq rfl
  obtain ⟨fs21, hm23, hk24, h⟩ := h
  replace h := h _ rfl
  refine k_putF (ci := 5) (v := .ref q14) (ty := .array .int) (C := RX4) (T := TX4) (N := 13) hx hb hts in_X4_init_X4 tyX4 tyX4_ok nmX4 hown hK hR hS hm23 rfl 1 (by decide) hw6 (fun _ h9 => h9) rfl hin0 rfl (by decide +kernel) rfl rfl hk24 dX4_init_19 (fun H locs hR hS => ?_)
  refine lv_aload_n hx hb dX4_init_22 rfl (lv_at hl 0 rfl) ?_
  refine lv_sipush (v := (918 : Int32)) hx hb dX4_init_23 (by decide) ?_
  obtain ⟨N25, hn28, hn29, hn30, hn31, hn32, h⟩ := h
  refine k_newa (atype := .int) (ty := .int) (a0 := (N25, .inl (fun _ => 0))) hx hb hw4 rfl 0 rfl hK hR hS hA (fun _ => rfl) hn28 hn29 hn30 hn31 hn32 dX4_init_26 (fun q26 H hq hR hS => ?_)
  replace h := h q26 _ hq rfl
  obtain ⟨fs33, hm35, hk36, h⟩ := h
  replace h := h _ rfl
  refine k_putF (ci := 5) (v := .ref q26) (ty := .array .int) (C := RX4) (T := TX4) (N := 13) hx hb hts in_X4_init_X4 tyX4 tyX4_ok nmX4 hown hK hR hS hm35 rfl 3 (by decide) hw7 (fun _ h9 => h9) rfl hin0 rfl (by decide +kernel) rfl rfl hk36 dX4_init_28 (fun H locs hR hS => ?_)
  refine lv_aload_n hx hb dX4_init_31 rfl (lv_at hl 0 rfl) ?_
  refine lv_iconst (v := (2 : Int32)) hx hb dX4_init_32 (by decide) ?_
  obtain ⟨N37, hn40, hn41, hn42, hn43, hn44, h⟩ := h
  refine k_newa (atype := .int) (ty := .int) (a0 := (N37, .inl (fun _ => 0))) hx hb hw4 rfl 0 rfl hK hR hS hA (fun _ => rfl) hn40 hn41 hn42 hn43 hn44 dX4_init_33 (fun q38 H hq hR hS => ?_)
  replace h := h q38 _ hq rfl
  obtain ⟨fs45, hm47, hk48, h⟩ := h
  replace h := h _ rfl
  refine k_putF (ci := 5) (v := .ref q38) (ty := .array .int) (C := RX4) (T := TX4) (N := 13) hx hb hts in_X4_init_X4 tyX4 tyX4_ok nmX4 hown hK hR hS hm47 rfl 4 (by decide) hw8 (fun _ h9 => h9) rfl hin0 rfl (by decide +kernel) rfl rfl hk48 dX4_init_35 (fun H locs hR hS => ?_)
  refine lv_aload_n hx hb dX4_init_38 rfl (lv_at hl 0 rfl) ?_
  refine lv_bipush (v := (64 : Int32)) hx hb dX4_init_39 (by decide) ?_
  obtain ⟨N49, hn52, hn53, hn54, hn55, hn56, h⟩ := h
  refine k_newa (atype := .int) (ty := .int) (a0 := (N49, .inl (fun _ => 0))) hx hb hw4 rfl 0 rfl hK hR hS hA (fun _ => rfl) hn52 hn53 hn54 hn55 hn56 dX4_init_41 (fun q50 H hq hR hS => ?_)
  replace h := h q50 _ hq rfl
  obtain ⟨fs57, hm59, hk60, h⟩ := h
  replace h := h _ rfl
  refine k_putF (ci := 5) (v := .ref q50) (ty := .array .int) (C := RX4) (T := TX4) (N := 13) hx hb hts in_X4_init_X4 tyX4 tyX4_ok nmX4 hown hK hR hS hm59 rfl 5 (by decide) hw9 (fun _ h9 => h9) rfl hin0 rfl (by decide +kernel) rfl rfl hk60 dX4_init_43 (fun H locs hR hS => ?_)
  refine lv_aload_n hx hb dX4_init_46 rfl (lv_at hl 0 rfl) ?_
  refine lv_bipush (v := (21 : Int32)) hx hb dX4_init_47 (by decide) ?_
  obtain ⟨N61, hn64, hn65, hn66, hn67, hn68, h⟩ := h
  refine k_newa (atype := .int) (ty := .int) (a0 := (N61, .inl (fun _ => 0))) hx hb hw4 rfl 0 rfl hK hR hS hA (fun _ => rfl) hn64 hn65 hn66 hn67 hn68 dX4_init_49 (fun q62 H hq hR hS => ?_)
  replace h := h q62 _ hq rfl
  obtain ⟨fs69, hm71, hk72, h⟩ := h
  replace h := h _ rfl
  refine k_putF (ci := 5) (v := .ref q62) (ty := .array .int) (C := RX4) (T := TX4) (N := 13) hx hb hts in_X4_init_X4 tyX4 tyX4_ok nmX4 hown hK hR hS hm71 rfl 7 (by decide) hw10 (fun _ h9 => h9) rfl hin0 rfl (by decide +kernel) rfl rfl hk72 dX4_init_51 (fun H locs hR hS => ?_)
  refine lv_aload_n hx hb dX4_init_54 rfl (lv_at hl 0 rfl) ?_
  refine lv_bipush (v := (21 : Int32)) hx hb dX4_init_55 (by decide) ?_
  obtain ⟨N73, hn76, hn77, hn78, hn79, hn80, h⟩ := h
  refine k_newa (atype := .int) (ty := .int) (a0 := (N73, .inl (fun _ => 0))) hx hb hw4 rfl 0 rfl hK hR hS hA (fun _ => rfl) hn76 hn77 hn78 hn79 hn80 dX4_init_57 (fun q74 H hq hR hS => ?_)
  replace h := h q74 _ hq rfl
  obtain ⟨fs81, hm83, hk84, h⟩ := h
  replace h := h _ rfl
  refine k_putF (ci := 5) (v := .ref q74) (ty := .array .int) (C := RX4) (T := TX4) (N := 13) hx hb hts in_X4_init_X4 tyX4 tyX4_ok nmX4 hown hK hR hS hm83 rfl 8 (by decide) hw11 (fun _ h9 => h9) rfl hin0 rfl (by decide +kernel) rfl rfl hk84 dX4_init_59 (fun H locs hR hS => ?_)
  refine lv_aload_n hx hb dX4_init_62 rfl (lv_at hl 0 rfl) ?_
  refine lv_bipush (v := (8 : Int32)) hx hb dX4_init_63 (by decide) ?_
  obtain ⟨N85, hn88, hn89, hn90, hn91, hn92, h⟩ := h
  refine k_newa (atype := .int) (ty := .int) (a0 := (N85, .inl (fun _ => 0))) hx hb hw4 rfl 0 rfl hK hR hS hA (fun _ => rfl) hn88 hn89 hn90 hn91 hn92 dX4_init_65 (fun q86 H hq hR hS => ?_)
  replace h := h q86 _ hq rfl
  obtain ⟨fs93, hm95, hk96, h⟩ := h
  replace h := h _ rfl
  refine k_putF (ci := 5) (v := .ref q86) (ty := .array .int) (C := RX4) (T := TX4) (N := 13) hx hb hts in_X4_init_X4 tyX4 tyX4_ok nmX4 hown hK hR hS hm95 rfl 9 (by decide) hw12 (fun _ h9 => h9) rfl hin0 rfl (by decide +kernel) rfl rfl hk96 dX4_init_67 (fun H locs hR hS => ?_)
  refine lv_aload_n hx hb dX4_init_70 rfl (lv_at hl 0 rfl) ?_
  refine lv_bipush (v := (8 : Int32)) hx hb dX4_init_71 (by decide) ?_
  obtain ⟨N97, hn100, hn101, hn102, hn103, hn104, h⟩ := h
  refine k_newa (atype := .int) (ty := .int) (a0 := (N97, .inl (fun _ => 0))) hx hb hw4 rfl 0 rfl hK hR hS hA (fun _ => rfl) hn100 hn101 hn102 hn103 hn104 dX4_init_73 (fun q98 H hq hR hS => ?_)
  replace h := h q98 _ hq rfl
  obtain ⟨fs105, hm107, hk108, h⟩ := h
  replace h := h _ rfl
  refine k_putF (ci := 5) (v := .ref q98) (ty := .array .int) (C := RX4) (T := TX4) (N := 13) hx hb hts in_X4_init_X4 tyX4 tyX4_ok nmX4 hown hK hR hS hm107 rfl 10 (by decide) hw13 (fun _ h9 => h9) rfl hin0 rfl (by decide +kernel) rfl rfl hk108 dX4_init_75 (fun H locs hR hS => ?_)
  refine lv_aload_n hx hb dX4_init_78 rfl (lv_at hl 0 rfl) ?_
  refine lv_sipush (v := (128 : Int32)) hx hb dX4_init_79 (by decide) ?_
  obtain ⟨N109, hn112, hn113, hn114, hn115, hn116, h⟩ := h
  refine k_newa (atype := .int) (ty := .int) (a0 := (N109, .inl (fun _ => 0))) hx hb hw4 rfl 0 rfl hK hR hS hA (fun _ => rfl) hn112 hn113 hn114 hn115 hn116 dX4_init_82 (fun q110 H hq hR hS => ?_)
  replace h := h q110 _ hq rfl
  obtain ⟨fs117, hm119, hk120, h⟩ := h
  replace h := h _ rfl
  refine k_putF (ci := 5) (v := .ref q110) (ty := .array .int) (C := RX4) (T := TX4) (N := 13) hx hb hts in_X4_init_X4 tyX4 tyX4_ok nmX4 hown hK hR hS hm119 rfl 11 (by decide) hw14 (fun _ h9 => h9) rfl hin0 rfl (by decide +kernel) rfl rfl hk120 dX4_init_84 (fun H locs hR hS => ?_)
  refine lv_aload_n hx hb dX4_init_87 rfl (lv_at hl 0 rfl) ?_
  obtain ⟨fs121, v122, hm123, hv124, h⟩ := h
  refine k_get (ci := 5) (C := RX4) (T := TX4) (N := 13) hx hb hts in_X4_init_X4 hown hK hR hm123 rfl 0 (by decide) hw5 (fun _ h9 => h9) hv124 dX4_init_88 ?_
  refine lv_iconst (v := (0 : Int32)) hx hb dX4_init_91 (by decide) ?_
  refine lv_iconst (v := (1 : Int32)) hx hb dX4_init_92 (by decide) ?_
  obtain ⟨n125, f126, hm128, hv129, h⟩ := h
  replace h := h _ rfl
  refine k_iast hx hb hK hR hS hm128 hv129 dX4_init_93 (fun H locs hR hS => ?_)
  refine lv_aload_n hx hb dX4_init_94 rfl (lv_at hl 0 rfl) ?_
  obtain ⟨fs130, v131, hm132, hv133, h⟩ := h
  refine k_get (ci := 5) (C := RX4) (T := TX4) (N := 13) hx hb hts in_X4_init_X4 hown hK hR hm132 rfl 0 (by decide) hw5 (fun _ h9 => h9) hv133 dX4_init_95 ?_
  refine lv_bipush (v := (123 : Int32)) hx hb dX4_init_98 (by decide) ?_
  refine lv_ldc (v := (65535 : Int32)) hx hb hown hw15 dX4_init_100 ?_
  obtain ⟨n134, f135, hm137, hv138, h⟩ := h
  replace h := h _ rfl
  refine k_iast hx hb hK hR hS hm137 hv138 dX4_init_102 (fun H locs hR hS => ?_)
  obtain ⟨hwc, hws, h⟩ := h
  refine W.widen (k := mc) (n := ms) hwc hws ?_
  exact k_retv hx hb hr hlocks hR hS h dX4_init_103

def wp_X4_moves_L3 (G : k_G) (post : k_M → Prop) : Nat → Nat → Int32 → Nat → Int32 → Int32 → Int32 → k_M → Prop
  | 0 => fun _ _ _ _ _ _ _ => False
  | n + 1 => fun x0 x1 x2 x3 x4 x5 M =>
  ((x4 ≤ x5 →
      post M) ∧
      (¬ x4 ≤ x5 →
      (∃ n2 f3, M x0 = some (kI G n2 f3) ∧ vp_in (x1 + x5) n2 ∧
        (∃ n6 f7, M x2 = some (kI G n6 f7) ∧ vp_in (x3 + x5) n6 ∧ ∀ M8 : k_M, M8 = va_up M x2 (some (kI G n6 (upd f7 ((x3 + x5)).toNatClampNeg (f3 ((x1 + x5)).toNatClampNeg)))) →
        (wp_X4_moves_L3 G post n) x0 x1 x2 x3 x4 (x5 + (1 : Int32)) M8))))
def wp_X4_moves (G : k_G) (post : k_M → Prop) (p0 : Nat) (p1 : Int32) (p2 : Nat) (p3 : Int32) (p4 : Int32) (M0 : k_M) : Prop :=
  ∃ k1, wp_X4_moves_L3 G post k1 p0 p1 p2 p3 p4 (0 : Int32) M0
set_option maxHeartbeats 4000000 in
set_option maxRecDepth 100000 in
theorem c_X4_moves (l : Launch) (G : k_G) (M0 : k_M) (sz : Nat) (post : k_M → Prop) (p0 : Nat) (p1 : Int32) (p2 : Nat) (p3 : Int32) (p4 : Int32) (h : wp_X4_moves G post p0 p1 p2 p3 p4 M0) : Met l yX4_moves wsX4_moves ({ frames := 0, cells := 0, slots := 0, locals := 0 }) (va_Pc [.ref p0, .int p1, .ref p2, .int p3, .int p4] (kPre G M0 sz)) (va_Qv post (kB G M0 sz) (kA M0 sz)) 0 0 (kA M0 sz) := by
  refine Met.ofW (cc := cX4_moves) (maxL := 6) (ret := none) (by decide) rfl ?_
  intro p e s m args below meth c s₁ B hml hv
  obtain ⟨rfl, hsz, hR, hE⟩ := hv
  have hx := B.exec
  have hb := B.bytes
  have hr := B.returns
  have hts := atoms_spec (ws := wsX4_moves) B.pre
  have hown : s.vm.findClass RX4 = some m.cls := findClass_of_methodNamed B.named
  have hlocks := B.notSynchronized
  subst hsz
  have hK := hE.1
  have hA : ∀ q, s.heap.size ≤ q → kA M0 s.heap.size q := kA.new
  have hS : va_S (kA M0 s.heap.size) s.heap s.heap [] := va_S.rf
  have L3 : ∀ (n : Nat), ∀ (x0 : Nat) (x1 : Int32) (x2 : Nat) (x3 : Int32) (x4 : Int32) (x5 : Int32) (M : k_M) (H : Heap) (locs : List Loc) (ls : Array Slot), wp_X4_moves_L3 G post n x0 x1 x2 x3 x4 x5 M → lv_has ls 6 [(0, .ref x0), (1, .int x1), (2, .ref x2), (3, .int x3), (4, .int x4), (5, .int x5)] → kR G M (kA M0 s.heap.size) H → va_S (kA M0 s.heap.size) s.heap H locs → W p l e (headSpec wsX4_moves ({ frames := 0, cells := 0, slots := 0, locals := 0 })).room s m ([.ref p0, .int p1, .ref p2, .int p3, .int p4] : List Value).toArray below meth c H locs 0 0 (MQ below (va_Qv post (kB G M0 s.heap.size) (kA M0 s.heap.size)) ([.ref p0, .int p1, .ref p2, .int p3, .int p4] : List Value).toArray s 0 0 (kA M0 s.heap.size)) (F0 m 3 ls []) := by
    intro n
    induction n with
    | zero =>
      intro  x0 x1 x2 x3 x4 x5 M H locs ls h
      exact False.elim h
    | succ n ih =>
      intro  x0 x1 x2 x3 x4 x5 M H locs ls h hl hR hS
      refine lv_iload hx hb dX4_moves_3 (lv_at hl 5 rfl) ?_
      refine lv_iload hx hb dX4_moves_5 (lv_at hl 4 rfl) ?_
      obtain ⟨ha, hb2⟩ := h
      refine lv_icmp_ge (tgt := 28) hx hb dX4_moves_7 (by decide) (fun hc => ?_) (fun hc => ?_)
      · replace h := ha hc
        exact k_retv hx hb hr hlocks hR hS h dX4_moves_28
      · replace h := hb2 hc
        refine lv_aload_n hx hb dX4_moves_10 rfl (lv_at hl 2 rfl) ?_
        refine lv_iload_n hx hb dX4_moves_11 rfl (lv_at hl 3 rfl) ?_
        refine lv_iload hx hb dX4_moves_12 (lv_at hl 5 rfl) ?_
        refine lv_iadd hx hb dX4_moves_14 ?_
        refine lv_aload_n hx hb dX4_moves_15 rfl (lv_at hl 0 rfl) ?_
        refine lv_iload_n hx hb dX4_moves_16 rfl (lv_at hl 1 rfl) ?_
        refine lv_iload hx hb dX4_moves_17 (lv_at hl 5 rfl) ?_
        refine lv_iadd hx hb dX4_moves_19 ?_
        obtain ⟨n2, f3, hm4, hv5, h⟩ := h
        refine k_iald hx hb hK hR hm4 hv5 dX4_moves_20 ?_
        obtain ⟨n6, f7, hm9, hv10, h⟩ := h
        replace h := h _ rfl
        refine k_iast hx hb hK hR hS hm9 hv10 dX4_moves_21 (fun H locs hR hS => ?_)
        refine lv_iinc (v := (x5 + (1 : Int32))) (lv' := [(5, .int (x5 + (1 : Int32))), (0, .ref x0), (1, .int x1), (2, .ref x2), (3, .int x3), (4, .int x4)]) hx hb dX4_moves_22 hl (k := 5) rfl rfl (by decide) rfl (fun ls hl => ?_)
        refine lv_goto (tgt := 3) hx hb dX4_moves_25 (by decide) ?_
        exact ih _ _ _ _ _ _ _ _ _ _ h (lv_sub hl [1, 2, 3, 4, 5, 0] rfl) hR hS
  have hl := lv_entry ([.ref p0, .int p1, .ref p2, .int p3, .int p4]) (n := 6) (Nat.le_of_ble_eq_true rfl)
  rw [lg_entry_eq]
  generalize (lg_sl ([.ref p0, .int p1, .ref p2, .int p3, .int p4]) ++ List.replicate (6 - (lg_sl ([.ref p0, .int p1, .ref p2, .int p3, .int p4])).length) Slot.unset).toArray = ls at hl ⊢
  have hl : lv_has ls 6 [(0, .ref p0), (1, .int p1), (2, .ref p2), (3, .int p3), (4, .int p4)] := hl
  have hR0 := hR
  refine lv_iconst (v := (0 : Int32)) hx hb dX4_moves_0 (by decide) ?_
  refine lv_istore (lv' := [(5, .int (0 : Int32)), (0, .ref p0), (1, .int p1), (2, .ref p2), (3, .int p3), (4, .int p4)]) hx hb dX4_moves_1 hl (by decide) rfl (fun ls hl => ?_)
  obtain ⟨k1, h⟩ := h
  exact L3 k1 _ _ _ _ _ _ _ _ _ _ h (lv_sub hl [1, 2, 3, 4, 5, 0] rfl) hR hS

def wp_X4_within (G : k_G) (post : Int32 → k_M → Prop) (p0 : Int32) (p1 : Int32) (p2 : Int32) (M0 : k_M) : Prop :=
  ((p0 < p1 →
  post (0 : Int32) M0) ∧
  (¬ p0 < p1 →
  ((p2 < p0 →
    post (0 : Int32) M0) ∧
    (¬ p2 < p0 →
    post (1 : Int32) M0))))
set_option maxHeartbeats 4000000 in
set_option maxRecDepth 100000 in
theorem c_X4_within (l : Launch) (G : k_G) (M0 : k_M) (sz : Nat) (post : Int32 → k_M → Prop) (p0 : Int32) (p1 : Int32) (p2 : Int32) (h : wp_X4_within G post p0 p1 p2 M0) : Met l yX4_within wsX4_within ({ frames := 0, cells := 0, slots := 0, locals := 0 }) (va_Pc [.int p0, .int p1, .int p2] (kPre G M0 sz)) (va_Qi post (kB G M0 sz) (kA M0 sz)) 0 0 (kA M0 sz) := by
  refine Met.ofW (cc := cX4_within) (maxL := 3) (ret := (some .boolean)) (by decide) rfl ?_
  intro p e s m args below meth c s₁ B hml hv
  obtain ⟨rfl, hsz, hR, hE⟩ := hv
  have hx := B.exec
  have hb := B.bytes
  have hr := B.returns
  have hts := atoms_spec (ws := wsX4_within) B.pre
  have hown : s.vm.findClass RX4 = some m.cls := findClass_of_methodNamed B.named
  have hlocks := B.notSynchronized
  subst hsz
  have hK := hE.1
  have hA : ∀ q, s.heap.size ≤ q → kA M0 s.heap.size q := kA.new
  have hS : va_S (kA M0 s.heap.size) s.heap s.heap [] := va_S.rf
  have hl := lv_entry ([.int p0, .int p1, .int p2]) (n := 3) (Nat.le_of_ble_eq_true rfl)
  rw [lg_entry_eq]
  generalize (lg_sl ([.int p0, .int p1, .int p2]) ++ List.replicate (3 - (lg_sl ([.int p0, .int p1, .int p2])).length) Slot.unset).toArray = ls at hl ⊢
  have hl : lv_has ls 3 [(0, .int p0), (1, .int p1), (2, .int p2)] := hl
  have hR0 := hR
  refine lv_iload_n hx hb dX4_within_0 rfl (lv_at hl 0 rfl) ?_
  refine lv_iload_n hx hb dX4_within_1 rfl (lv_at hl 1 rfl) ?_
  obtain ⟨ha, hb2⟩ := h
  refine lv_icmp_lt (tgt := 14) hx hb dX4_within_2 (by decide) (fun hc => ?_) (fun hc => ?_)
  · replace h := ha hc
    refine lv_iconst (v := (0 : Int32)) hx hb dX4_within_14 (by decide) ?_
    exact k_reti hx hb hr hlocks (by decide) hR hS h dX4_within_15
  · replace h := hb2 hc
    refine lv_iload_n hx hb dX4_within_5 rfl (lv_at hl 0 rfl) ?_
    refine lv_iload_n hx hb dX4_within_6 rfl (lv_at hl 2 rfl) ?_
    obtain ⟨ha, hb2⟩ := h
    refine lv_icmp_gt (tgt := 14) hx hb dX4_within_7 (by decide) (fun hc => ?_) (fun hc => ?_)
    · replace h := ha hc
      refine lv_iconst (v := (0 : Int32)) hx hb dX4_within_14 (by decide) ?_
      exact k_reti hx hb hr hlocks (by decide) hR hS h dX4_within_15
    · replace h := hb2 hc
      refine lv_iconst (v := (1 : Int32)) hx hb dX4_within_10 (by decide) ?_
      refine lv_goto (tgt := 15) hx hb dX4_within_11 (by decide) ?_
      exact k_reti hx hb hr hlocks (by decide) hR hS h dX4_within_15

def wp_X4_record_b50 (G : k_G) (post : k_M → Prop) (x0 : Nat) (M : k_M) : Prop :=
  (∃ fs5 v6, M x0 = some (kO 5 fs5) ∧ fs5[0]? = some (.ref v6) ∧
    (∃ fs9 v10, M x0 = some (kO 5 fs9) ∧ fs9[1]? = some (.ref v10) ∧
    (∃ fs13 v14, M x0 = some (kO 5 fs13) ∧ fs13[2]? = some (.int v14) ∧
    wp_X4_moves G (fun M18 =>
    (∃ fs20 v21, M18 x0 = some (kO 5 fs20) ∧ fs20[2]? = some (.int v21) ∧
    (∃ fs24, M18 x0 = some (kO 5 fs24) ∧ 2 < fs24.length ∧ ∀ M25 : k_M, M25 = va_up M18 x0 (some (kO 5 (fs24.set 2 (.int (v21 + (1 : Int32)))))) →
    post M25))) v6 (0 : Int32) v10 (v14 * (459 : Int32)) (459 : Int32) M)))
def wp_X4_record_L11 (G : k_G) (post : k_M → Prop) : Nat → Nat → Int32 → k_M → Prop
  | 0 => fun _ _ _ => False
  | n + 1 => fun x0 x1 M =>
  (((2295 : Int32) ≤ x1 →
      (∃ fs29 v30, M x0 = some (kO 5 fs29) ∧ fs29[2]? = some (.int v30) ∧
        (∃ fs33, M x0 = some (kO 5 fs33) ∧ 2 < fs33.length ∧ ∀ M34 : k_M, M34 = va_up M x0 (some (kO 5 (fs33.set 2 (.int (v30 - (1 : Int32)))))) →
        wp_X4_record_b50 G post x0 M34))) ∧
      (¬ (2295 : Int32) ≤ x1 →
      (∃ fs37 v38, M x0 = some (kO 5 fs37) ∧ fs37[1]? = some (.ref v38) ∧
        (∃ fs41 v42, M x0 = some (kO 5 fs41) ∧ fs41[1]? = some (.ref v42) ∧
        (∃ n45 f46, M v42 = some (kI G n45 f46) ∧ vp_in (x1 + (459 : Int32)) n45 ∧
        (∃ n49 f50, M v38 = some (kI G n49 f50) ∧ vp_in x1 n49 ∧ ∀ M51 : k_M, M51 = va_up M v38 (some (kI G n49 (upd f50 (x1).toNatClampNeg (f46 ((x1 + (459 : Int32))).toNatClampNeg)))) →
        (wp_X4_record_L11 G post n) x0 (x1 + (1 : Int32)) M51))))))
def wp_X4_record (G : k_G) (post : k_M → Prop) (p0 : Nat) (M0 : k_M) : Prop :=
  (∃ fs1 v2, M0 p0 = some (kO 5 fs1) ∧ fs1[2]? = some (.int v2) ∧
  ((¬ v2 = (6 : Int32) →
  wp_X4_record_b50 G post p0 M0) ∧
  (v2 = (6 : Int32) →
  ∃ k28, wp_X4_record_L11 G post k28 p0 (0 : Int32) M0)))
theorem in_X4_record_X4 : ∀ w ∈ wsX40, w ∈ wsX4_record := by decide +kernel
set_option maxHeartbeats 4000000 in
set_option maxRecDepth 100000 in
theorem c_X4_record (l : Launch) (G : k_G) (M0 : k_M) (sz : Nat) (post : k_M → Prop) (p0 : Nat) (h : wp_X4_record G post p0 M0) : Met l yX4_record wsX4_record ({ frames := 1, cells := 0, slots := 0, locals := 25 }) (va_Pc [.ref p0] (kPre G M0 sz)) (va_Qv post (kB G M0 sz) (kA M0 sz)) 0 0 (kA M0 sz) := by
  refine Met.ofW (cc := cX4_record) (maxL := 2) (ret := none) (by decide) rfl ?_
  intro p e s m args below meth c s₁ B hml hv
  obtain ⟨rfl, hsz, hR, hE⟩ := hv
  have hx := B.exec
  have hb := B.bytes
  have hr := B.returns
  have hts := atoms_spec (ws := wsX4_record) B.pre
  have hown : s.vm.findClass RX4 = some m.cls := findClass_of_methodNamed B.named
  have hlocks := B.notSynchronized
  subst hsz
  have hK := hE.1
  have hA : ∀ q, s.heap.size ≤ q → kA M0 s.heap.size q := kA.new
  have hS : va_S (kA M0 s.heap.size) s.heap s.heap [] := va_S.rf
  have hw1 := hts (.fieldLink RX4 41 "ForkedStampsModel" "recorded" "I") (by decide +kernel)
  have hw2 := hts (.fieldLink RX4 7 "ForkedStampsModel" "state" "[I") (by decide +kernel)
  have hw3 := hts (.fieldLink RX4 13 "ForkedStampsModel" "history" "[I") (by decide +kernel)
  have b50 : ∀ (x0 : Nat) (M : k_M) (H : Heap) (locs : List Loc) (ls : Array Slot), wp_X4_record_b50 G post x0 M → lv_has ls 2 [(0, .ref x0)] → kR G M (kA M0 s.heap.size) H → va_S (kA M0 s.heap.size) s.heap H locs → W p l e (headSpec wsX4_record ({ frames := 1, cells := 0, slots := 0, locals := 25 })).room s m ([.ref p0] : List Value).toArray below meth c H locs 0 0 (MQ below (va_Qv post (kB G M0 s.heap.size) (kA M0 s.heap.size)) ([.ref p0] : List Value).toArray s 0 0 (kA M0 s.heap.size)) (F0 m 50 ls []) := by
    intro x0 M H locs ls h hl hR hS
    refine lv_aload_n hx hb dX4_record_50 rfl (lv_at hl 0 rfl) ?_
    obtain ⟨fs5, v6, hm7, hv8, h⟩ := h
    refine k_get (ci := 5) (C := RX4) (T := TX4) (N := 13) hx hb hts in_X4_record_X4 hown hK hR hm7 rfl 0 (by decide) hw2 (fun _ h9 => h9) hv8 dX4_record_51 ?_
    refine lv_iconst (v := (0 : Int32)) hx hb dX4_record_54 (by decide) ?_
    refine lv_aload_n hx hb dX4_record_55 rfl (lv_at hl 0 rfl) ?_
    obtain ⟨fs9, v10, hm11, hv12, h⟩ := h
    refine k_get (ci := 5) (C := RX4) (T := TX4) (N := 13) hx hb hts in_X4_record_X4 hown hK hR hm11 rfl 1 (by decide) hw3 (fun _ h9 => h9) hv12 dX4_record_56 ?_
    refine lv_aload_n hx hb dX4_record_59 rfl (lv_at hl 0 rfl) ?_
    obtain ⟨fs13, v14, hm15, hv16, h⟩ := h
    refine k_get (ci := 5) (C := RX4) (T := TX4) (N := 13) hx hb hts in_X4_record_X4 hown hK hR hm15 rfl 2 (by decide) hw1 (fun _ h9 => h9) hv16 dX4_record_60 ?_
    refine lv_sipush (v := (459 : Int32)) hx hb dX4_record_63 (by decide) ?_
    refine lv_imul hx hb dX4_record_66 ?_
    refine lv_sipush (v := (459 : Int32)) hx hb dX4_record_67 (by decide) ?_
    refine k_callv0 (va_runS (As := [.ref v6, .int (0 : Int32), .ref v10, .int (v14 * (459 : Int32)), .int (459 : Int32)]) (rest := []) ⟨hx, hb, hml, hown, hts⟩ (c_X4_moves l G _ _ _ v6 (0 : Int32) v10 (v14 * (459 : Int32)) (459 : Int32) h) (va_cwS 5 hts gX4_record_X4_moves rfl rfl rfl (by decide +kernel) ⟨Nat.le_of_ble_eq_true rfl, Nat.le_of_ble_eq_true rfl⟩) (k_preS hR hS hA hE) rfl rfl hl.1 rfl (lv_room (Nat.le_of_ble_eq_true rfl)) dX4_record_70 ⟨Nat.zero_le _, Nat.zero_le _⟩) hR hS hA (fun M18 H locs h hR hS => ?_)
    refine lv_aload_n hx hb dX4_record_73 rfl (lv_at hl 0 rfl) ?_
    refine lv_dup hx hb dX4_record_74 rfl ?_
    obtain ⟨fs20, v21, hm22, hv23, h⟩ := h
    refine k_get (ci := 5) (C := RX4) (T := TX4) (N := 13) hx hb hts in_X4_record_X4 hown hK hR hm22 rfl 2 (by decide) hw1 (fun _ h9 => h9) hv23 dX4_record_75 ?_
    refine lv_iconst (v := (1 : Int32)) hx hb dX4_record_78 (by decide) ?_
    refine lv_iadd hx hb dX4_record_79 ?_
    obtain ⟨fs24, hm26, hk27, h⟩ := h
    replace h := h _ rfl
    refine k_put (ci := 5) (v := .int (v21 + (1 : Int32))) (ty := .int) (C := RX4) (T := TX4) (N := 13) hx hb hts in_X4_record_X4 tyX4 tyX4_ok nmX4 hown hK hR hS hm26 rfl 2 (by decide) hw1 (fun _ h9 => h9) rfl (by decide +kernel) rfl rfl hk27 dX4_record_80 (fun H locs hR hS => ?_)
    exact k_retv hx hb hr hlocks hR hS h dX4_record_83
  have L11 : ∀ (n : Nat), ∀ (x0 : Nat) (x1 : Int32) (M : k_M) (H : Heap) (locs : List Loc) (ls : Array Slot), wp_X4_record_L11 G post n x0 x1 M → lv_has ls 2 [(0, .ref x0), (1, .int x1)] → kR G M (kA M0 s.heap.size) H → va_S (kA M0 s.heap.size) s.heap H locs → W p l e (headSpec wsX4_record ({ frames := 1, cells := 0, slots := 0, locals := 25 })).room s m ([.ref p0] : List Value).toArray below meth c H locs 0 0 (MQ below (va_Qv post (kB G M0 s.heap.size) (kA M0 s.heap.size)) ([.ref p0] : List Value).toArray s 0 0 (kA M0 s.heap.size)) (F0 m 11 ls []) := by
    intro n
    induction n with
    | zero =>
      intro  x0 x1 M H locs ls h
      exact False.elim h
    | succ n ih =>
      intro  x0 x1 M H locs ls h hl hR hS
      refine lv_iload_n hx hb dX4_record_11 rfl (lv_at hl 1 rfl) ?_
      refine lv_sipush (v := (2295 : Int32)) hx hb dX4_record_12 (by decide) ?_
      obtain ⟨ha, hb2⟩ := h
      refine lv_icmp_ge (tgt := 40) hx hb dX4_record_15 (by decide) (fun hc => ?_) (fun hc => ?_)
      · replace h := ha hc
        refine lv_aload_n hx hb dX4_record_40 rfl (lv_at hl 0 rfl) ?_
        refine lv_dup hx hb dX4_record_41 rfl ?_
        obtain ⟨fs29, v30, hm31, hv32, h⟩ := h
        refine k_get (ci := 5) (C := RX4) (T := TX4) (N := 13) hx hb hts in_X4_record_X4 hown hK hR hm31 rfl 2 (by decide) hw1 (fun _ h9 => h9) hv32 dX4_record_42 ?_
        refine lv_iconst (v := (1 : Int32)) hx hb dX4_record_45 (by decide) ?_
        refine lv_isub hx hb dX4_record_46 ?_
        obtain ⟨fs33, hm35, hk36, h⟩ := h
        replace h := h _ rfl
        refine k_put (ci := 5) (v := .int (v30 - (1 : Int32))) (ty := .int) (C := RX4) (T := TX4) (N := 13) hx hb hts in_X4_record_X4 tyX4 tyX4_ok nmX4 hown hK hR hS hm35 rfl 2 (by decide) hw1 (fun _ h9 => h9) rfl (by decide +kernel) rfl rfl hk36 dX4_record_47 (fun H locs hR hS => ?_)
        exact b50 _ _ _ _ _ h (lv_sub hl [0] rfl) hR hS
      · replace h := hb2 hc
        refine lv_aload_n hx hb dX4_record_18 rfl (lv_at hl 0 rfl) ?_
        obtain ⟨fs37, v38, hm39, hv40, h⟩ := h
        refine k_get (ci := 5) (C := RX4) (T := TX4) (N := 13) hx hb hts in_X4_record_X4 hown hK hR hm39 rfl 1 (by decide) hw3 (fun _ h9 => h9) hv40 dX4_record_19 ?_
        refine lv_iload_n hx hb dX4_record_22 rfl (lv_at hl 1 rfl) ?_
        refine lv_aload_n hx hb dX4_record_23 rfl (lv_at hl 0 rfl) ?_
        obtain ⟨fs41, v42, hm43, hv44, h⟩ := h
        refine k_get (ci := 5) (C := RX4) (T := TX4) (N := 13) hx hb hts in_X4_record_X4 hown hK hR hm43 rfl 1 (by decide) hw3 (fun _ h9 => h9) hv44 dX4_record_24 ?_
        refine lv_iload_n hx hb dX4_record_27 rfl (lv_at hl 1 rfl) ?_
        refine lv_sipush (v := (459 : Int32)) hx hb dX4_record_28 (by decide) ?_
        refine lv_iadd hx hb dX4_record_31 ?_
        obtain ⟨n45, f46, hm47, hv48, h⟩ := h
        refine k_iald hx hb hK hR hm47 hv48 dX4_record_32 ?_
        obtain ⟨n49, f50, hm52, hv53, h⟩ := h
        replace h := h _ rfl
        refine k_iast hx hb hK hR hS hm52 hv53 dX4_record_33 (fun H locs hR hS => ?_)
        refine lv_iinc (v := (x1 + (1 : Int32))) (lv' := [(1, .int (x1 + (1 : Int32))), (0, .ref x0)]) hx hb dX4_record_34 hl (k := 1) rfl rfl (by decide) rfl (fun ls hl => ?_)
        refine lv_goto (tgt := 11) hx hb dX4_record_37 (by decide) ?_
        exact ih _ _ _ _ _ _ h (lv_sub hl [1, 0] rfl) hR hS
  have hl := lv_entry ([.ref p0]) (n := 2) (Nat.le_of_ble_eq_true rfl)
  rw [lg_entry_eq]
  generalize (lg_sl ([.ref p0]) ++ List.replicate (2 - (lg_sl ([.ref p0])).length) Slot.unset).toArray = ls at hl ⊢
  have hl : lv_has ls 2 [(0, .ref p0)] := hl
  have hR0 := hR
  refine lv_aload_n hx hb dX4_record_0 rfl (lv_at hl 0 rfl) ?_
  obtain ⟨fs1, v2, hm3, hv4, h⟩ := h
  refine k_get (ci := 5) (C := RX4) (T := TX4) (N := 13) hx hb hts in_X4_record_X4 hown hK hR hm3 rfl 2 (by decide) hw1 (fun _ h9 => h9) hv4 dX4_record_1 ?_
  refine lv_bipush (v := (6 : Int32)) hx hb dX4_record_4 (by decide) ?_
  obtain ⟨ha, hb2⟩ := h
  refine lv_icmp_ne (tgt := 50) hx hb dX4_record_6 (by decide) (fun hc => ?_) (fun hc => ?_)
  · replace h := ha hc
    exact b50 _ _ _ _ _ h (lv_sub hl [0] rfl) hR hS
  · replace h := hb2 hc
    refine lv_iconst (v := (0 : Int32)) hx hb dX4_record_9 (by decide) ?_
    refine lv_istore_n (lv' := [(1, .int (0 : Int32)), (0, .ref p0)]) hx hb dX4_record_10 rfl hl (by decide) rfl (fun ls hl => ?_)
    obtain ⟨k28, h⟩ := h
    exact L11 k28 _ _ _ _ _ _ h (lv_sub hl [1, 0] rfl) hR hS

def wp_X4_isHelper (G : k_G) (post : Int32 → k_M → Prop) (p0 : Nat) (p1 : Int32) (M0 : k_M) : Prop :=
  wp_X4_within G (fun r1 M2 =>
  ((r1 = 0 →
  post (0 : Int32) M2) ∧
  (¬ r1 = 0 →
  (∃ fs4 v5, M2 p0 = some (kO 5 fs4) ∧ fs4[0]? = some (.ref v5) ∧
    (∃ n8 f9, M2 v5 = some (kI G n8 f9) ∧ vp_in (0 : Int32) n8 ∧
    ((¬ (((f9 ((0 : Int32)).toNatClampNeg) >>> (p1 &&& 31)) &&& (1 : Int32)) = (1 : Int32) →
    post (0 : Int32) M2) ∧
    ((((f9 ((0 : Int32)).toNatClampNeg) >>> (p1 &&& 31)) &&& (1 : Int32)) = (1 : Int32) →
    post (1 : Int32) M2))))))) p1 (0 : Int32) (7 : Int32) M0
theorem in_X4_isHelper_X4 : ∀ w ∈ wsX40, w ∈ wsX4_isHelper := by decide +kernel
set_option maxHeartbeats 4000000 in
set_option maxRecDepth 100000 in
theorem c_X4_isHelper (l : Launch) (G : k_G) (M0 : k_M) (sz : Nat) (post : Int32 → k_M → Prop) (p0 : Nat) (p1 : Int32) (h : wp_X4_isHelper G post p0 p1 M0) : Met l yX4_isHelper wsX4_isHelper ({ frames := 1, cells := 0, slots := 0, locals := 22 }) (va_Pc [.ref p0, .int p1] (kPre G M0 sz)) (va_Qi post (kB G M0 sz) (kA M0 sz)) 0 0 (kA M0 sz) := by
  refine Met.ofW (cc := cX4_isHelper) (maxL := 2) (ret := (some .boolean)) (by decide) rfl ?_
  intro p e s m args below meth c s₁ B hml hv
  obtain ⟨rfl, hsz, hR, hE⟩ := hv
  have hx := B.exec
  have hb := B.bytes
  have hr := B.returns
  have hts := atoms_spec (ws := wsX4_isHelper) B.pre
  have hown : s.vm.findClass RX4 = some m.cls := findClass_of_methodNamed B.named
  have hlocks := B.notSynchronized
  subst hsz
  have hK := hE.1
  have hA : ∀ q, s.heap.size ≤ q → kA M0 s.heap.size q := kA.new
  have hS : va_S (kA M0 s.heap.size) s.heap s.heap [] := va_S.rf
  have hw1 := hts (.fieldLink RX4 7 "ForkedStampsModel" "state" "[I") (by decide +kernel)
  have hl := lv_entry ([.ref p0, .int p1]) (n := 2) (Nat.le_of_ble_eq_true rfl)
  rw [lg_entry_eq]
  generalize (lg_sl ([.ref p0, .int p1]) ++ List.replicate (2 - (lg_sl ([.ref p0, .int p1])).length) Slot.unset).toArray = ls at hl ⊢
  have hl : lv_has ls 2 [(0, .ref p0), (1, .int p1)] := hl
  have hR0 := hR
  refine lv_iload_n hx hb dX4_isHelper_0 rfl (lv_at hl 1 rfl) ?_
  refine lv_iconst (v := (0 : Int32)) hx hb dX4_isHelper_1 (by decide) ?_
  refine lv_bipush (v := (7 : Int32)) hx hb dX4_isHelper_2 (by decide) ?_
  refine k_calli0 (va_runS (As := [.int p1, .int (0 : Int32), .int (7 : Int32)]) (rest := []) ⟨hx, hb, hml, hown, hts⟩ (c_X4_within l G _ _ _ p1 (0 : Int32) (7 : Int32) h) (va_cwS 3 hts gX4_isHelper_X4_within rfl rfl rfl (by decide +kernel) ⟨Nat.le_of_ble_eq_true rfl, Nat.le_of_ble_eq_true rfl⟩) (k_preS hR hS hA hE) rfl rfl hl.1 rfl (lv_room (Nat.le_of_ble_eq_true rfl)) dX4_isHelper_4 ⟨Nat.zero_le _, Nat.zero_le _⟩) hR hS hA (fun r1 M2 H locs h hR hS => ?_)
  obtain ⟨ha, hb2⟩ := h
  refine lv_if_eq (tgt := 28) hx hb dX4_isHelper_7 (by decide) (fun hc => ?_) (fun hc => ?_)
  · replace h := ha hc
    refine lv_iconst (v := (0 : Int32)) hx hb dX4_isHelper_28 (by decide) ?_
    exact k_reti hx hb hr hlocks (by decide) hR hS h dX4_isHelper_29
  · replace h := hb2 hc
    refine lv_aload_n hx hb dX4_isHelper_10 rfl (lv_at hl 0 rfl) ?_
    obtain ⟨fs4, v5, hm6, hv7, h⟩ := h
    refine k_get (ci := 5) (C := RX4) (T := TX4) (N := 13) hx hb hts in_X4_isHelper_X4 hown hK hR hm6 rfl 0 (by decide) hw1 (fun _ h9 => h9) hv7 dX4_isHelper_11 ?_
    refine lv_iconst (v := (0 : Int32)) hx hb dX4_isHelper_14 (by decide) ?_
    obtain ⟨n8, f9, hm10, hv11, h⟩ := h
    refine k_iald hx hb hK hR hm10 hv11 dX4_isHelper_15 ?_
    refine lv_iload_n hx hb dX4_isHelper_16 rfl (lv_at hl 1 rfl) ?_
    refine lv_ishr hx hb dX4_isHelper_17 ?_
    refine lv_iconst (v := (1 : Int32)) hx hb dX4_isHelper_18 (by decide) ?_
    refine lv_iand hx hb dX4_isHelper_19 ?_
    refine lv_iconst (v := (1 : Int32)) hx hb dX4_isHelper_20 (by decide) ?_
    obtain ⟨ha, hb2⟩ := h
    refine lv_icmp_ne (tgt := 28) hx hb dX4_isHelper_21 (by decide) (fun hc => ?_) (fun hc => ?_)
    · replace h := ha hc
      refine lv_iconst (v := (0 : Int32)) hx hb dX4_isHelper_28 (by decide) ?_
      exact k_reti hx hb hr hlocks (by decide) hR hS h dX4_isHelper_29
    · replace h := hb2 hc
      refine lv_iconst (v := (1 : Int32)) hx hb dX4_isHelper_24 (by decide) ?_
      refine lv_goto (tgt := 29) hx hb dX4_isHelper_25 (by decide) ?_
      exact k_reti hx hb hr hlocks (by decide) hR hS h dX4_isHelper_29

def wp_X4_isMessage (G : k_G) (post : Int32 → k_M → Prop) (p0 : Nat) (p1 : Int32) (M0 : k_M) : Prop :=
  (∃ fs1 v2, M0 p0 = some (kO 5 fs1) ∧ fs1[0]? = some (.ref v2) ∧
  (∃ n5 f6, M0 v2 = some (kI G n5 f6) ∧ vp_in (1 : Int32) n5 ∧
  wp_X4_within G (fun r9 M10 =>
  (narrow .boolean (.int r9) = .int r9 ∧ post r9 M10)) p1 (0 : Int32) ((f6 ((1 : Int32)).toNatClampNeg) - (1 : Int32)) M0))
theorem in_X4_isMessage_X4 : ∀ w ∈ wsX40, w ∈ wsX4_isMessage := by decide +kernel
set_option maxHeartbeats 4000000 in
set_option maxRecDepth 100000 in
theorem c_X4_isMessage (l : Launch) (G : k_G) (M0 : k_M) (sz : Nat) (post : Int32 → k_M → Prop) (p0 : Nat) (p1 : Int32) (h : wp_X4_isMessage G post p0 p1 M0) : Met l yX4_isMessage wsX4_isMessage ({ frames := 1, cells := 0, slots := 0, locals := 22 }) (va_Pc [.ref p0, .int p1] (kPre G M0 sz)) (va_Qi post (kB G M0 sz) (kA M0 sz)) 0 0 (kA M0 sz) := by
  refine Met.ofW (cc := cX4_isMessage) (maxL := 2) (ret := (some .boolean)) (by decide) rfl ?_
  intro p e s m args below meth c s₁ B hml hv
  obtain ⟨rfl, hsz, hR, hE⟩ := hv
  have hx := B.exec
  have hb := B.bytes
  have hr := B.returns
  have hts := atoms_spec (ws := wsX4_isMessage) B.pre
  have hown : s.vm.findClass RX4 = some m.cls := findClass_of_methodNamed B.named
  have hlocks := B.notSynchronized
  subst hsz
  have hK := hE.1
  have hA : ∀ q, s.heap.size ≤ q → kA M0 s.heap.size q := kA.new
  have hS : va_S (kA M0 s.heap.size) s.heap s.heap [] := va_S.rf
  have hw1 := hts (.fieldLink RX4 7 "ForkedStampsModel" "state" "[I") (by decide +kernel)
  have hl := lv_entry ([.ref p0, .int p1]) (n := 2) (Nat.le_of_ble_eq_true rfl)
  rw [lg_entry_eq]
  generalize (lg_sl ([.ref p0, .int p1]) ++ List.replicate (2 - (lg_sl ([.ref p0, .int p1])).length) Slot.unset).toArray = ls at hl ⊢
  have hl : lv_has ls 2 [(0, .ref p0), (1, .int p1)] := hl
  have hR0 := hR
  refine lv_iload_n hx hb dX4_isMessage_0 rfl (lv_at hl 1 rfl) ?_
  refine lv_iconst (v := (0 : Int32)) hx hb dX4_isMessage_1 (by decide) ?_
  refine lv_aload_n hx hb dX4_isMessage_2 rfl (lv_at hl 0 rfl) ?_
  obtain ⟨fs1, v2, hm3, hv4, h⟩ := h
  refine k_get (ci := 5) (C := RX4) (T := TX4) (N := 13) hx hb hts in_X4_isMessage_X4 hown hK hR hm3 rfl 0 (by decide) hw1 (fun _ h9 => h9) hv4 dX4_isMessage_3 ?_
  refine lv_iconst (v := (1 : Int32)) hx hb dX4_isMessage_6 (by decide) ?_
  obtain ⟨n5, f6, hm7, hv8, h⟩ := h
  refine k_iald hx hb hK hR hm7 hv8 dX4_isMessage_7 ?_
  refine lv_iconst (v := (1 : Int32)) hx hb dX4_isMessage_8 (by decide) ?_
  refine lv_isub hx hb dX4_isMessage_9 ?_
  refine k_calli0 (va_runS (As := [.int p1, .int (0 : Int32), .int ((f6 ((1 : Int32)).toNatClampNeg) - (1 : Int32))]) (rest := []) ⟨hx, hb, hml, hown, hts⟩ (c_X4_within l G _ _ _ p1 (0 : Int32) ((f6 ((1 : Int32)).toNatClampNeg) - (1 : Int32)) h) (va_cwS 3 hts gX4_isMessage_X4_within rfl rfl rfl (by decide +kernel) ⟨Nat.le_of_ble_eq_true rfl, Nat.le_of_ble_eq_true rfl⟩) (k_preS hR hS hA hE) rfl rfl hl.1 rfl (lv_room (Nat.le_of_ble_eq_true rfl)) dX4_isMessage_10 ⟨Nat.zero_le _, Nat.zero_le _⟩) hR hS hA (fun r9 M10 H locs h hR hS => ?_)
  obtain ⟨hn12, h⟩ := h
  exact k_reti hx hb hr hlocks hn12 hR hS h dX4_isMessage_13

def wp_X4_helperAt (G : k_G) (post : Int32 → k_M → Prop) (p0 : Int32) (M0 : k_M) : Prop :=
  post ((123 : Int32) + ((21 : Int32) * p0)) M0
set_option maxHeartbeats 4000000 in
set_option maxRecDepth 100000 in
theorem c_X4_helperAt (l : Launch) (G : k_G) (M0 : k_M) (sz : Nat) (post : Int32 → k_M → Prop) (p0 : Int32) (h : wp_X4_helperAt G post p0 M0) : Met l yX4_helperAt wsX4_helperAt ({ frames := 0, cells := 0, slots := 0, locals := 0 }) (va_Pc [.int p0] (kPre G M0 sz)) (va_Qi post (kB G M0 sz) (kA M0 sz)) 0 0 (kA M0 sz) := by
  refine Met.ofW (cc := cX4_helperAt) (maxL := 1) (ret := (some .int)) (by decide) rfl ?_
  intro p e s m args below meth c s₁ B hml hv
  obtain ⟨rfl, hsz, hR, hE⟩ := hv
  have hx := B.exec
  have hb := B.bytes
  have hr := B.returns
  have hts := atoms_spec (ws := wsX4_helperAt) B.pre
  have hown : s.vm.findClass RX4 = some m.cls := findClass_of_methodNamed B.named
  have hlocks := B.notSynchronized
  subst hsz
  have hK := hE.1
  have hA : ∀ q, s.heap.size ≤ q → kA M0 s.heap.size q := kA.new
  have hS : va_S (kA M0 s.heap.size) s.heap s.heap [] := va_S.rf
  have hl := lv_entry ([.int p0]) (n := 1) (Nat.le_of_ble_eq_true rfl)
  rw [lg_entry_eq]
  generalize (lg_sl ([.int p0]) ++ List.replicate (1 - (lg_sl ([.int p0])).length) Slot.unset).toArray = ls at hl ⊢
  have hl : lv_has ls 1 [(0, .int p0)] := hl
  have hR0 := hR
  refine lv_bipush (v := (123 : Int32)) hx hb dX4_helperAt_0 (by decide) ?_
  refine lv_bipush (v := (21 : Int32)) hx hb dX4_helperAt_2 (by decide) ?_
  refine lv_iload_n hx hb dX4_helperAt_4 rfl (lv_at hl 0 rfl) ?_
  refine lv_imul hx hb dX4_helperAt_5 ?_
  refine lv_iadd hx hb dX4_helperAt_6 ?_
  exact k_reti hx hb hr hlocks rfl hR hS h dX4_helperAt_7

def wp_X4_messageAt (G : k_G) (post : Int32 → k_M → Prop) (p0 : Int32) (M0 : k_M) : Prop :=
  post ((291 : Int32) + ((21 : Int32) * p0)) M0
set_option maxHeartbeats 4000000 in
set_option maxRecDepth 100000 in
theorem c_X4_messageAt (l : Launch) (G : k_G) (M0 : k_M) (sz : Nat) (post : Int32 → k_M → Prop) (p0 : Int32) (h : wp_X4_messageAt G post p0 M0) : Met l yX4_messageAt wsX4_messageAt ({ frames := 0, cells := 0, slots := 0, locals := 0 }) (va_Pc [.int p0] (kPre G M0 sz)) (va_Qi post (kB G M0 sz) (kA M0 sz)) 0 0 (kA M0 sz) := by
  refine Met.ofW (cc := cX4_messageAt) (maxL := 1) (ret := (some .int)) (by decide) rfl ?_
  intro p e s m args below meth c s₁ B hml hv
  obtain ⟨rfl, hsz, hR, hE⟩ := hv
  have hx := B.exec
  have hb := B.bytes
  have hr := B.returns
  have hts := atoms_spec (ws := wsX4_messageAt) B.pre
  have hown : s.vm.findClass RX4 = some m.cls := findClass_of_methodNamed B.named
  have hlocks := B.notSynchronized
  subst hsz
  have hK := hE.1
  have hA : ∀ q, s.heap.size ≤ q → kA M0 s.heap.size q := kA.new
  have hS : va_S (kA M0 s.heap.size) s.heap s.heap [] := va_S.rf
  have hl := lv_entry ([.int p0]) (n := 1) (Nat.le_of_ble_eq_true rfl)
  rw [lg_entry_eq]
  generalize (lg_sl ([.int p0]) ++ List.replicate (1 - (lg_sl ([.int p0])).length) Slot.unset).toArray = ls at hl ⊢
  have hl : lv_has ls 1 [(0, .int p0)] := hl
  have hR0 := hR
  refine lv_sipush (v := (291 : Int32)) hx hb dX4_messageAt_0 (by decide) ?_
  refine lv_bipush (v := (21 : Int32)) hx hb dX4_messageAt_3 (by decide) ?_
  refine lv_iload_n hx hb dX4_messageAt_5 rfl (lv_at hl 0 rfl) ?_
  refine lv_imul hx hb dX4_messageAt_6 ?_
  refine lv_iadd hx hb dX4_messageAt_7 ?_
  exact k_reti hx hb hr hlocks rfl hR hS h dX4_messageAt_8

def wp_X4_isThere (G : k_G) (post : Int32 → k_M → Prop) (p0 : Nat) (p1 : Int32) (p2 : Int32) (M0 : k_M) : Prop :=
  ((¬ p1 = 0 →
  (∃ fs4, M0 p0 = some (kO 5 fs4) ∧ wp_X4_isMessage G (fun r1 M2 =>
    (narrow .boolean (.int r1) = .int r1 ∧ post r1 M2)) p0 p2 M0)) ∧
  (p1 = 0 →
  (∃ fs9, M0 p0 = some (kO 5 fs9) ∧ wp_X4_isHelper G (fun r6 M7 =>
    (narrow .boolean (.int r6) = .int r6 ∧ post r6 M7)) p0 p2 M0)))
set_option maxHeartbeats 4000000 in
set_option maxRecDepth 100000 in
theorem c_X4_isThere (l : Launch) (G : k_G) (M0 : k_M) (sz : Nat) (post : Int32 → k_M → Prop) (p0 : Nat) (p1 : Int32) (p2 : Int32) (h : wp_X4_isThere G post p0 p1 p2 M0) : Met l yX4_isThere wsX4_isThere ({ frames := 2, cells := 0, slots := 0, locals := 43 }) (va_Pc [.ref p0, .int p1, .int p2] (kPre G M0 sz)) (va_Qi post (kB G M0 sz) (kA M0 sz)) 0 0 (kA M0 sz) := by
  refine Met.ofW (cc := cX4_isThere) (maxL := 3) (ret := (some .boolean)) (by decide) rfl ?_
  intro p e s m args below meth c s₁ B hml hv
  obtain ⟨rfl, hsz, hR, hE⟩ := hv
  have hx := B.exec
  have hb := B.bytes
  have hr := B.returns
  have hts := atoms_spec (ws := wsX4_isThere) B.pre
  have hown : s.vm.findClass RX4 = some m.cls := findClass_of_methodNamed B.named
  have hlocks := B.notSynchronized
  subst hsz
  have hK := hE.1
  have hA : ∀ q, s.heap.size ≤ q → kA M0 s.heap.size q := kA.new
  have hS : va_S (kA M0 s.heap.size) s.heap s.heap [] := va_S.rf
  have hl := lv_entry ([.ref p0, .int p1, .int p2]) (n := 3) (Nat.le_of_ble_eq_true rfl)
  rw [lg_entry_eq]
  generalize (lg_sl ([.ref p0, .int p1, .int p2]) ++ List.replicate (3 - (lg_sl ([.ref p0, .int p1, .int p2])).length) Slot.unset).toArray = ls at hl ⊢
  have hl : lv_has ls 3 [(0, .ref p0), (1, .int p1), (2, .int p2)] := hl
  have hR0 := hR
  refine lv_iload_n hx hb dX4_isThere_0 rfl (lv_at hl 1 rfl) ?_
  obtain ⟨ha, hb2⟩ := h
  refine lv_if_ne (tgt := 12) hx hb dX4_isThere_1 (by decide) (fun hc => ?_) (fun hc => ?_)
  · replace h := ha hc
    refine lv_aload_n hx hb dX4_isThere_12 rfl (lv_at hl 0 rfl) ?_
    refine lv_iload_n hx hb dX4_isThere_13 rfl (lv_at hl 2 rfl) ?_
    obtain ⟨fs4, hm3, h⟩ := h
    refine k_calli0 (va_runV (As := [.int p2]) (rest := []) ⟨hx, hb, hml, hown, hts⟩ (c_X4_isMessage l G _ _ _ p0 p2 h) (cwV 1 hts gX4_isThere_X4_isMessage rfl rfl rfl (by decide +kernel) ⟨Nat.le_of_ble_eq_true rfl, Nat.le_of_ble_eq_true rfl⟩) (k_preV (q := (RX4, TX4, 13)) hm3 rfl hR hS hA hE) rfl rfl hl.1 rfl (lv_room (Nat.le_of_ble_eq_true rfl)) dX4_isThere_14 ⟨Nat.zero_le _, Nat.zero_le _⟩) hR hS hA (fun r1 M2 H locs h hR hS => ?_)
    obtain ⟨hn5, h⟩ := h
    exact k_reti hx hb hr hlocks hn5 hR hS h dX4_isThere_17
  · replace h := hb2 hc
    refine lv_aload_n hx hb dX4_isThere_4 rfl (lv_at hl 0 rfl) ?_
    refine lv_iload_n hx hb dX4_isThere_5 rfl (lv_at hl 2 rfl) ?_
    obtain ⟨fs9, hm8, h⟩ := h
    refine k_calli0 (va_runV (As := [.int p2]) (rest := []) ⟨hx, hb, hml, hown, hts⟩ (c_X4_isHelper l G _ _ _ p0 p2 h) (cwV 1 hts gX4_isThere_X4_isHelper rfl rfl rfl (by decide +kernel) ⟨Nat.le_of_ble_eq_true rfl, Nat.le_of_ble_eq_true rfl⟩) (k_preV (q := (RX4, TX4, 13)) hm8 rfl hR hS hA hE) rfl rfl hl.1 rfl (lv_room (Nat.le_of_ble_eq_true rfl)) dX4_isThere_6 ⟨Nat.zero_le _, Nat.zero_le _⟩) hR hS hA (fun r6 M7 H locs h hR hS => ?_)
    refine lv_goto (tgt := 17) hx hb dX4_isThere_9 (by decide) ?_
    obtain ⟨hn10, h⟩ := h
    exact k_reti hx hb hr hlocks hn10 hR hS h dX4_isThere_17

def wp_X4_placeOf (G : k_G) (post : Int32 → k_M → Prop) (p0 : Int32) (p1 : Int32) (M0 : k_M) : Prop :=
  ((¬ p0 = 0 →
  wp_X4_messageAt G (fun r1 M2 =>
    post r1 M2) p1 M0) ∧
  (p0 = 0 →
  wp_X4_helperAt G (fun r4 M5 =>
    post r4 M5) p1 M0))
set_option maxHeartbeats 4000000 in
set_option maxRecDepth 100000 in
theorem c_X4_placeOf (l : Launch) (G : k_G) (M0 : k_M) (sz : Nat) (post : Int32 → k_M → Prop) (p0 : Int32) (p1 : Int32) (h : wp_X4_placeOf G post p0 p1 M0) : Met l yX4_placeOf wsX4_placeOf ({ frames := 1, cells := 0, slots := 0, locals := 20 }) (va_Pc [.int p0, .int p1] (kPre G M0 sz)) (va_Qi post (kB G M0 sz) (kA M0 sz)) 0 0 (kA M0 sz) := by
  refine Met.ofW (cc := cX4_placeOf) (maxL := 2) (ret := (some .int)) (by decide) rfl ?_
  intro p e s m args below meth c s₁ B hml hv
  obtain ⟨rfl, hsz, hR, hE⟩ := hv
  have hx := B.exec
  have hb := B.bytes
  have hr := B.returns
  have hts := atoms_spec (ws := wsX4_placeOf) B.pre
  have hown : s.vm.findClass RX4 = some m.cls := findClass_of_methodNamed B.named
  have hlocks := B.notSynchronized
  subst hsz
  have hK := hE.1
  have hA : ∀ q, s.heap.size ≤ q → kA M0 s.heap.size q := kA.new
  have hS : va_S (kA M0 s.heap.size) s.heap s.heap [] := va_S.rf
  have hl := lv_entry ([.int p0, .int p1]) (n := 2) (Nat.le_of_ble_eq_true rfl)
  rw [lg_entry_eq]
  generalize (lg_sl ([.int p0, .int p1]) ++ List.replicate (2 - (lg_sl ([.int p0, .int p1])).length) Slot.unset).toArray = ls at hl ⊢
  have hl : lv_has ls 2 [(0, .int p0), (1, .int p1)] := hl
  have hR0 := hR
  refine lv_iload_n hx hb dX4_placeOf_0 rfl (lv_at hl 0 rfl) ?_
  obtain ⟨ha, hb2⟩ := h
  refine lv_if_ne (tgt := 11) hx hb dX4_placeOf_1 (by decide) (fun hc => ?_) (fun hc => ?_)
  · replace h := ha hc
    refine lv_iload_n hx hb dX4_placeOf_11 rfl (lv_at hl 1 rfl) ?_
    refine k_calli0 (va_runS (As := [.int p1]) (rest := []) ⟨hx, hb, hml, hown, hts⟩ (c_X4_messageAt l G _ _ _ p1 h) (va_cwS 1 hts gX4_placeOf_X4_messageAt rfl rfl rfl (by decide +kernel) ⟨Nat.le_of_ble_eq_true rfl, Nat.le_of_ble_eq_true rfl⟩) (k_preS hR hS hA hE) rfl rfl hl.1 rfl (lv_room (Nat.le_of_ble_eq_true rfl)) dX4_placeOf_12 ⟨Nat.zero_le _, Nat.zero_le _⟩) hR hS hA (fun r1 M2 H locs h hR hS => ?_)
    exact k_reti hx hb hr hlocks rfl hR hS h dX4_placeOf_15
  · replace h := hb2 hc
    refine lv_iload_n hx hb dX4_placeOf_4 rfl (lv_at hl 1 rfl) ?_
    refine k_calli0 (va_runS (As := [.int p1]) (rest := []) ⟨hx, hb, hml, hown, hts⟩ (c_X4_helperAt l G _ _ _ p1 h) (va_cwS 1 hts gX4_placeOf_X4_helperAt rfl rfl rfl (by decide +kernel) ⟨Nat.le_of_ble_eq_true rfl, Nat.le_of_ble_eq_true rfl⟩) (k_preS hR hS hA hE) rfl rfl hl.1 rfl (lv_room (Nat.le_of_ble_eq_true rfl)) dX4_placeOf_5 ⟨Nat.zero_le _, Nat.zero_le _⟩) hR hS hA (fun r4 M5 H locs h hR hS => ?_)
    refine lv_goto (tgt := 15) hx hb dX4_placeOf_8 (by decide) ?_
    exact k_reti hx hb hr hlocks rfl hR hS h dX4_placeOf_15

def wp_X4_bits_L4 (G : k_G) (post : Int32 → k_M → Prop) : Nat → Int32 → Int32 → Int32 → k_M → Prop
  | 0 => fun _ _ _ _ => False
  | n + 1 => fun x0 x1 x2 M =>
  (((30 : Int32) ≤ x2 →
      post x1 M) ∧
      (¬ (30 : Int32) ≤ x2 →
      (∀ y2 : Int32, y2 = (x1 + ((x0 >>> (x2 &&& 31)) &&& (1 : Int32))) →
        (wp_X4_bits_L4 G post n) x0 y2 (x2 + (1 : Int32)) M)))
def wp_X4_bits (G : k_G) (post : Int32 → k_M → Prop) (p0 : Int32) (M0 : k_M) : Prop :=
  ∃ k1, wp_X4_bits_L4 G post k1 p0 (0 : Int32) (0 : Int32) M0
set_option maxHeartbeats 4000000 in
set_option maxRecDepth 100000 in
theorem c_X4_bits (l : Launch) (G : k_G) (M0 : k_M) (sz : Nat) (post : Int32 → k_M → Prop) (p0 : Int32) (h : wp_X4_bits G post p0 M0) : Met l yX4_bits wsX4_bits ({ frames := 0, cells := 0, slots := 0, locals := 0 }) (va_Pc [.int p0] (kPre G M0 sz)) (va_Qi post (kB G M0 sz) (kA M0 sz)) 0 0 (kA M0 sz) := by
  refine Met.ofW (cc := cX4_bits) (maxL := 3) (ret := (some .int)) (by decide) rfl ?_
  intro p e s m args below meth c s₁ B hml hv
  obtain ⟨rfl, hsz, hR, hE⟩ := hv
  have hx := B.exec
  have hb := B.bytes
  have hr := B.returns
  have hts := atoms_spec (ws := wsX4_bits) B.pre
  have hown : s.vm.findClass RX4 = some m.cls := findClass_of_methodNamed B.named
  have hlocks := B.notSynchronized
  subst hsz
  have hK := hE.1
  have hA : ∀ q, s.heap.size ≤ q → kA M0 s.heap.size q := kA.new
  have hS : va_S (kA M0 s.heap.size) s.heap s.heap [] := va_S.rf
  have L4 : ∀ (n : Nat), ∀ (x0 : Int32) (x1 : Int32) (x2 : Int32) (M : k_M) (H : Heap) (locs : List Loc) (ls : Array Slot), wp_X4_bits_L4 G post n x0 x1 x2 M → lv_has ls 3 [(0, .int x0), (1, .int x1), (2, .int x2)] → kR G M (kA M0 s.heap.size) H → va_S (kA M0 s.heap.size) s.heap H locs → W p l e (headSpec wsX4_bits ({ frames := 0, cells := 0, slots := 0, locals := 0 })).room s m ([.int p0] : List Value).toArray below meth c H locs 0 0 (MQ below (va_Qi post (kB G M0 s.heap.size) (kA M0 s.heap.size)) ([.int p0] : List Value).toArray s 0 0 (kA M0 s.heap.size)) (F0 m 4 ls []) := by
    intro n
    induction n with
    | zero =>
      intro  x0 x1 x2 M H locs ls h
      exact False.elim h
    | succ n ih =>
      intro  x0 x1 x2 M H locs ls h hl hR hS
      refine lv_iload_n hx hb dX4_bits_4 rfl (lv_at hl 2 rfl) ?_
      refine lv_bipush (v := (30 : Int32)) hx hb dX4_bits_5 (by decide) ?_
      obtain ⟨ha, hb2⟩ := h
      refine lv_icmp_ge (tgt := 24) hx hb dX4_bits_7 (by decide) (fun hc => ?_) (fun hc => ?_)
      · replace h := ha hc
        refine lv_iload_n hx hb dX4_bits_24 rfl (lv_at hl 1 rfl) ?_
        exact k_reti hx hb hr hlocks rfl hR hS h dX4_bits_25
      · replace h := hb2 hc
        refine lv_iload_n hx hb dX4_bits_10 rfl (lv_at hl 1 rfl) ?_
        refine lv_iload_n hx hb dX4_bits_11 rfl (lv_at hl 0 rfl) ?_
        refine lv_iload_n hx hb dX4_bits_12 rfl (lv_at hl 2 rfl) ?_
        refine lv_ishr hx hb dX4_bits_13 ?_
        refine lv_iconst (v := (1 : Int32)) hx hb dX4_bits_14 (by decide) ?_
        refine lv_iand hx hb dX4_bits_15 ?_
        refine lv_iadd hx hb dX4_bits_16 ?_
        refine lv_topi (fun y2 ey2 => ?_)
        replace h := h y2 ey2
        refine lv_istore_n (lv' := [(1, .int y2), (0, .int x0), (2, .int x2)]) hx hb dX4_bits_17 rfl hl (by decide) rfl (fun ls hl => ?_)
        refine lv_iinc (v := (x2 + (1 : Int32))) (lv' := [(2, .int (x2 + (1 : Int32))), (1, .int y2), (0, .int x0)]) hx hb dX4_bits_18 hl (k := 2) rfl rfl (by decide) rfl (fun ls hl => ?_)
        refine lv_goto (tgt := 4) hx hb dX4_bits_21 (by decide) ?_
        exact ih _ _ _ _ _ _ _ h (lv_sub hl [2, 1, 0] rfl) hR hS
  have hl := lv_entry ([.int p0]) (n := 3) (Nat.le_of_ble_eq_true rfl)
  rw [lg_entry_eq]
  generalize (lg_sl ([.int p0]) ++ List.replicate (3 - (lg_sl ([.int p0])).length) Slot.unset).toArray = ls at hl ⊢
  have hl : lv_has ls 3 [(0, .int p0)] := hl
  have hR0 := hR
  refine lv_iconst (v := (0 : Int32)) hx hb dX4_bits_0 (by decide) ?_
  refine lv_istore_n (lv' := [(1, .int (0 : Int32)), (0, .int p0)]) hx hb dX4_bits_1 rfl hl (by decide) rfl (fun ls hl => ?_)
  refine lv_iconst (v := (0 : Int32)) hx hb dX4_bits_2 (by decide) ?_
  refine lv_istore_n (lv' := [(2, .int (0 : Int32)), (1, .int (0 : Int32)), (0, .int p0)]) hx hb dX4_bits_3 rfl hl (by decide) rfl (fun ls hl => ?_)
  obtain ⟨k1, h⟩ := h
  exact L4 k1 _ _ _ _ _ _ _ h (lv_sub hl [2, 1, 0] rfl) hR hS

def wp_X4_orderOf_b90 (G : k_G) (post : Int32 → k_M → Prop) (x4 : Int32) (x5 : Int32) (M : k_M) : Prop :=
  ((x4 = 0 →
    ((x5 = 0 →
      post (0 : Int32) M) ∧
      (¬ x5 = 0 →
      post (2 : Int32) M))) ∧
    (¬ x4 = 0 →
    post (1 : Int32) M))
def wp_X4_orderOf_b41 (G : k_G) (post : Int32 → k_M → Prop) (K9 : Nat → Int32 → Nat → Int32 → Int32 → Int32 → Int32 → k_M → Prop) (x0 : Nat) (x1 : Int32) (x2 : Nat) (x3 : Int32) (x5 : Int32) (x6 : Int32) (s0 : Int32) (M : k_M) : Prop :=
  ((¬ x5 = 0 →
    K9 x0 x1 x2 x3 s0 (1 : Int32) (x6 + (1 : Int32)) M) ∧
    (x5 = 0 →
    (∃ n2 f3, M x0 = some (kI G n2 f3) ∧ vp_in (x1 + x6) n2 ∧
      (∃ n6 f7, M x2 = some (kI G n6 f7) ∧ vp_in (x3 + x6) n6 ∧
      (((f3 ((x1 + x6)).toNatClampNeg) ≤ (f7 ((x3 + x6)).toNatClampNeg) →
      K9 x0 x1 x2 x3 s0 (0 : Int32) (x6 + (1 : Int32)) M) ∧
      (¬ (f3 ((x1 + x6)).toNatClampNeg) ≤ (f7 ((x3 + x6)).toNatClampNeg) →
      K9 x0 x1 x2 x3 s0 (1 : Int32) (x6 + (1 : Int32)) M))))))
def wp_X4_orderOf_b36 (G : k_G) (post : Int32 → k_M → Prop) (K9 : Nat → Int32 → Nat → Int32 → Int32 → Int32 → Int32 → k_M → Prop) (x0 : Nat) (x1 : Int32) (x2 : Nat) (x3 : Int32) (x5 : Int32) (x6 : Int32) (M : k_M) : Prop :=
  wp_X4_orderOf_b41 G post K9 x0 x1 x2 x3 x5 x6 (1 : Int32) M
def wp_X4_orderOf_L9 (G : k_G) (post : Int32 → k_M → Prop) : Nat → Nat → Int32 → Nat → Int32 → Int32 → Int32 → Int32 → k_M → Prop
  | 0 => fun _ _ _ _ _ _ _ _ => False
  | n + 1 => fun x0 x1 x2 x3 x4 x5 x6 M =>
  (((17 : Int32) ≤ x6 →
      ((x4 = 0 →
        wp_X4_orderOf_b90 G post x4 x5 M) ∧
        (¬ x4 = 0 →
        ((x5 = 0 →
          wp_X4_orderOf_b90 G post x4 x5 M) ∧
          (¬ x5 = 0 →
          post (3 : Int32) M))))) ∧
      (¬ (17 : Int32) ≤ x6 →
      ((¬ x4 = 0 →
        wp_X4_orderOf_b36 G post (wp_X4_orderOf_L9 G post n) x0 x1 x2 x3 x5 x6 M) ∧
        (x4 = 0 →
        (∃ n10 f11, M x0 = some (kI G n10 f11) ∧ vp_in (x1 + x6) n10 ∧
          (∃ n14 f15, M x2 = some (kI G n14 f15) ∧ vp_in (x3 + x6) n14 ∧
          (((f15 ((x3 + x6)).toNatClampNeg) ≤ (f11 ((x1 + x6)).toNatClampNeg) →
          wp_X4_orderOf_b41 G post (wp_X4_orderOf_L9 G post n) x0 x1 x2 x3 x5 x6 (0 : Int32) M) ∧
          (¬ (f15 ((x3 + x6)).toNatClampNeg) ≤ (f11 ((x1 + x6)).toNatClampNeg) →
          wp_X4_orderOf_b36 G post (wp_X4_orderOf_L9 G post n) x0 x1 x2 x3 x5 x6 M))))))))
def wp_X4_orderOf (G : k_G) (post : Int32 → k_M → Prop) (p0 : Nat) (p1 : Int32) (p2 : Nat) (p3 : Int32) (M0 : k_M) : Prop :=
  ∃ k1, wp_X4_orderOf_L9 G post k1 p0 p1 p2 p3 (0 : Int32) (0 : Int32) (1 : Int32) M0
set_option maxHeartbeats 4000000 in
set_option maxRecDepth 100000 in
theorem c_X4_orderOf (l : Launch) (G : k_G) (M0 : k_M) (sz : Nat) (post : Int32 → k_M → Prop) (p0 : Nat) (p1 : Int32) (p2 : Nat) (p3 : Int32) (h : wp_X4_orderOf G post p0 p1 p2 p3 M0) : Met l yX4_orderOf wsX4_orderOf ({ frames := 0, cells := 0, slots := 0, locals := 0 }) (va_Pc [.ref p0, .int p1, .ref p2, .int p3] (kPre G M0 sz)) (va_Qi post (kB G M0 sz) (kA M0 sz)) 0 0 (kA M0 sz) := by
  refine Met.ofW (cc := cX4_orderOf) (maxL := 7) (ret := (some .int)) (by decide) rfl ?_
  intro p e s m args below meth c s₁ B hml hv
  obtain ⟨rfl, hsz, hR, hE⟩ := hv
  have hx := B.exec
  have hb := B.bytes
  have hr := B.returns
  have hts := atoms_spec (ws := wsX4_orderOf) B.pre
  have hown : s.vm.findClass RX4 = some m.cls := findClass_of_methodNamed B.named
  have hlocks := B.notSynchronized
  subst hsz
  have hK := hE.1
  have hA : ∀ q, s.heap.size ≤ q → kA M0 s.heap.size q := kA.new
  have hS : va_S (kA M0 s.heap.size) s.heap s.heap [] := va_S.rf
  have b90 : ∀ (x4 : Int32) (x5 : Int32) (M : k_M) (H : Heap) (locs : List Loc) (ls : Array Slot), wp_X4_orderOf_b90 G post x4 x5 M → lv_has ls 7 [(4, .int x4), (5, .int x5)] → kR G M (kA M0 s.heap.size) H → va_S (kA M0 s.heap.size) s.heap H locs → W p l e (headSpec wsX4_orderOf ({ frames := 0, cells := 0, slots := 0, locals := 0 })).room s m ([.ref p0, .int p1, .ref p2, .int p3] : List Value).toArray below meth c H locs 0 0 (MQ below (va_Qi post (kB G M0 s.heap.size) (kA M0 s.heap.size)) ([.ref p0, .int p1, .ref p2, .int p3] : List Value).toArray s 0 0 (kA M0 s.heap.size)) (F0 m 90 ls []) := by
    intro x4 x5 M H locs ls h hl hR hS
    refine lv_iload hx hb dX4_orderOf_90 (lv_at hl 0 rfl) ?_
    obtain ⟨ha, hb2⟩ := h
    refine lv_if_eq (tgt := 99) hx hb dX4_orderOf_92 (by decide) (fun hc => ?_) (fun hc => ?_)
    · replace h := ha hc
      refine lv_iload hx hb dX4_orderOf_99 (lv_at hl 1 rfl) ?_
      obtain ⟨ha, hb2⟩ := h
      refine lv_if_eq (tgt := 108) hx hb dX4_orderOf_101 (by decide) (fun hc => ?_) (fun hc => ?_)
      · replace h := ha hc
        refine lv_iconst (v := (0 : Int32)) hx hb dX4_orderOf_108 (by decide) ?_
        exact k_reti hx hb hr hlocks rfl hR hS h dX4_orderOf_109
      · replace h := hb2 hc
        refine lv_iconst (v := (2 : Int32)) hx hb dX4_orderOf_104 (by decide) ?_
        refine lv_goto (tgt := 109) hx hb dX4_orderOf_105 (by decide) ?_
        exact k_reti hx hb hr hlocks rfl hR hS h dX4_orderOf_109
    · replace h := hb2 hc
      refine lv_iconst (v := (1 : Int32)) hx hb dX4_orderOf_95 (by decide) ?_
      refine lv_goto (tgt := 109) hx hb dX4_orderOf_96 (by decide) ?_
      exact k_reti hx hb hr hlocks rfl hR hS h dX4_orderOf_109
  have b41 : ∀ (K9 : Nat → Int32 → Nat → Int32 → Int32 → Int32 → Int32 → k_M → Prop) (hK9 : ∀ (x0 : Nat) (x1 : Int32) (x2 : Nat) (x3 : Int32) (x4 : Int32) (x5 : Int32) (x6 : Int32) (M : k_M) (H : Heap) (locs : List Loc) (ls : Array Slot), K9 x0 x1 x2 x3 x4 x5 x6 M → lv_has ls 7 [(0, .ref x0), (1, .int x1), (2, .ref x2), (3, .int x3), (4, .int x4), (5, .int x5), (6, .int x6)] → kR G M (kA M0 s.heap.size) H → va_S (kA M0 s.heap.size) s.heap H locs → W p l e (headSpec wsX4_orderOf ({ frames := 0, cells := 0, slots := 0, locals := 0 })).room s m ([.ref p0, .int p1, .ref p2, .int p3] : List Value).toArray below meth c H locs 0 0 (MQ below (va_Qi post (kB G M0 s.heap.size) (kA M0 s.heap.size)) ([.ref p0, .int p1, .ref p2, .int p3] : List Value).toArray s 0 0 (kA M0 s.heap.size)) (F0 m 9 ls [])), ∀ (x0 : Nat) (x1 : Int32) (x2 : Nat) (x3 : Int32) (x5 : Int32) (x6 : Int32) (s0 : Int32) (M : k_M) (H : Heap) (locs : List Loc) (ls : Array Slot), wp_X4_orderOf_b41 G post K9 x0 x1 x2 x3 x5 x6 s0 M → lv_has ls 7 [(0, .ref x0), (1, .int x1), (2, .ref x2), (3, .int x3), (5, .int x5), (6, .int x6)] → kR G M (kA M0 s.heap.size) H → va_S (kA M0 s.heap.size) s.heap H locs → W p l e (headSpec wsX4_orderOf ({ frames := 0, cells := 0, slots := 0, locals := 0 })).room s m ([.ref p0, .int p1, .ref p2, .int p3] : List Value).toArray below meth c H locs 0 0 (MQ below (va_Qi post (kB G M0 s.heap.size) (kA M0 s.heap.size)) ([.ref p0, .int p1, .ref p2, .int p3] : List Value).toArray s 0 0 (kA M0 s.heap.size)) (F0 m 41 ls [.int s0]) := by
    intro K9 hK9 x0 x1 x2 x3 x5 x6 s0 M H locs ls h hl hR hS
    refine lv_istore (lv' := [(4, .int s0), (0, .ref x0), (1, .int x1), (2, .ref x2), (3, .int x3), (5, .int x5), (6, .int x6)]) hx hb dX4_orderOf_41 hl (by decide) rfl (fun ls hl => ?_)
    refine lv_iload hx hb dX4_orderOf_43 (lv_at hl 5 rfl) ?_
    obtain ⟨ha, hb2⟩ := h
    refine lv_if_ne (tgt := 63) hx hb dX4_orderOf_45 (by decide) (fun hc => ?_) (fun hc => ?_)
    · replace h := ha hc
      refine lv_iconst (v := (1 : Int32)) hx hb dX4_orderOf_63 (by decide) ?_
      refine lv_goto (tgt := 68) hx hb dX4_orderOf_64 (by decide) ?_
      refine lv_istore (lv' := [(5, .int (1 : Int32)), (4, .int s0), (0, .ref x0), (1, .int x1), (2, .ref x2), (3, .int x3), (6, .int x6)]) hx hb dX4_orderOf_68 hl (by decide) rfl (fun ls hl => ?_)
      refine lv_iinc (v := (x6 + (1 : Int32))) (lv' := [(6, .int (x6 + (1 : Int32))), (5, .int (1 : Int32)), (4, .int s0), (0, .ref x0), (1, .int x1), (2, .ref x2), (3, .int x3)]) hx hb dX4_orderOf_70 hl (k := 6) rfl rfl (by decide) rfl (fun ls hl => ?_)
      refine lv_goto (tgt := 9) hx hb dX4_orderOf_73 (by decide) ?_
      exact hK9 _ _ _ _ _ _ _ _ _ _ _ h (lv_sub hl [3, 4, 5, 6, 2, 1, 0] rfl) hR hS
    · replace h := hb2 hc
      refine lv_aload_n hx hb dX4_orderOf_48 rfl (lv_at hl 1 rfl) ?_
      refine lv_iload_n hx hb dX4_orderOf_49 rfl (lv_at hl 2 rfl) ?_
      refine lv_iload hx hb dX4_orderOf_50 (lv_at hl 6 rfl) ?_
      refine lv_iadd hx hb dX4_orderOf_52 ?_
      obtain ⟨n2, f3, hm4, hv5, h⟩ := h
      refine k_iald hx hb hK hR hm4 hv5 dX4_orderOf_53 ?_
      refine lv_aload_n hx hb dX4_orderOf_54 rfl (lv_at hl 3 rfl) ?_
      refine lv_iload_n hx hb dX4_orderOf_55 rfl (lv_at hl 4 rfl) ?_
      refine lv_iload hx hb dX4_orderOf_56 (lv_at hl 6 rfl) ?_
      refine lv_iadd hx hb dX4_orderOf_58 ?_
      obtain ⟨n6, f7, hm8, hv9, h⟩ := h
      refine k_iald hx hb hK hR hm8 hv9 dX4_orderOf_59 ?_
      obtain ⟨ha, hb2⟩ := h
      refine lv_icmp_le (tgt := 67) hx hb dX4_orderOf_60 (by decide) (fun hc => ?_) (fun hc => ?_)
      · replace h := ha hc
        refine lv_iconst (v := (0 : Int32)) hx hb dX4_orderOf_67 (by decide) ?_
        refine lv_istore (lv' := [(5, .int (0 : Int32)), (4, .int s0), (0, .ref x0), (1, .int x1), (2, .ref x2), (3, .int x3), (6, .int x6)]) hx hb dX4_orderOf_68 hl (by decide) rfl (fun ls hl => ?_)
        refine lv_iinc (v := (x6 + (1 : Int32))) (lv' := [(6, .int (x6 + (1 : Int32))), (5, .int (0 : Int32)), (4, .int s0), (0, .ref x0), (1, .int x1), (2, .ref x2), (3, .int x3)]) hx hb dX4_orderOf_70 hl (k := 6) rfl rfl (by decide) rfl (fun ls hl => ?_)
        refine lv_goto (tgt := 9) hx hb dX4_orderOf_73 (by decide) ?_
        exact hK9 _ _ _ _ _ _ _ _ _ _ _ h (lv_sub hl [3, 4, 5, 6, 2, 1, 0] rfl) hR hS
      · replace h := hb2 hc
        refine lv_iconst (v := (1 : Int32)) hx hb dX4_orderOf_63 (by decide) ?_
        refine lv_goto (tgt := 68) hx hb dX4_orderOf_64 (by decide) ?_
        refine lv_istore (lv' := [(5, .int (1 : Int32)), (4, .int s0), (0, .ref x0), (1, .int x1), (2, .ref x2), (3, .int x3), (6, .int x6)]) hx hb dX4_orderOf_68 hl (by decide) rfl (fun ls hl => ?_)
        refine lv_iinc (v := (x6 + (1 : Int32))) (lv' := [(6, .int (x6 + (1 : Int32))), (5, .int (1 : Int32)), (4, .int s0), (0, .ref x0), (1, .int x1), (2, .ref x2), (3, .int x3)]) hx hb dX4_orderOf_70 hl (k := 6) rfl rfl (by decide) rfl (fun ls hl => ?_)
        refine lv_goto (tgt := 9) hx hb dX4_orderOf_73 (by decide) ?_
        exact hK9 _ _ _ _ _ _ _ _ _ _ _ h (lv_sub hl [3, 4, 5, 6, 2, 1, 0] rfl) hR hS
  have b36 : ∀ (K9 : Nat → Int32 → Nat → Int32 → Int32 → Int32 → Int32 → k_M → Prop) (hK9 : ∀ (x0 : Nat) (x1 : Int32) (x2 : Nat) (x3 : Int32) (x4 : Int32) (x5 : Int32) (x6 : Int32) (M : k_M) (H : Heap) (locs : List Loc) (ls : Array Slot), K9 x0 x1 x2 x3 x4 x5 x6 M → lv_has ls 7 [(0, .ref x0), (1, .int x1), (2, .ref x2), (3, .int x3), (4, .int x4), (5, .int x5), (6, .int x6)] → kR G M (kA M0 s.heap.size) H → va_S (kA M0 s.heap.size) s.heap H locs → W p l e (headSpec wsX4_orderOf ({ frames := 0, cells := 0, slots := 0, locals := 0 })).room s m ([.ref p0, .int p1, .ref p2, .int p3] : List Value).toArray below meth c H locs 0 0 (MQ below (va_Qi post (kB G M0 s.heap.size) (kA M0 s.heap.size)) ([.ref p0, .int p1, .ref p2, .int p3] : List Value).toArray s 0 0 (kA M0 s.heap.size)) (F0 m 9 ls [])), ∀ (x0 : Nat) (x1 : Int32) (x2 : Nat) (x3 : Int32) (x5 : Int32) (x6 : Int32) (M : k_M) (H : Heap) (locs : List Loc) (ls : Array Slot), wp_X4_orderOf_b36 G post K9 x0 x1 x2 x3 x5 x6 M → lv_has ls 7 [(0, .ref x0), (1, .int x1), (2, .ref x2), (3, .int x3), (5, .int x5), (6, .int x6)] → kR G M (kA M0 s.heap.size) H → va_S (kA M0 s.heap.size) s.heap H locs → W p l e (headSpec wsX4_orderOf ({ frames := 0, cells := 0, slots := 0, locals := 0 })).room s m ([.ref p0, .int p1, .ref p2, .int p3] : List Value).toArray below meth c H locs 0 0 (MQ below (va_Qi post (kB G M0 s.heap.size) (kA M0 s.heap.size)) ([.ref p0, .int p1, .ref p2, .int p3] : List Value).toArray s 0 0 (kA M0 s.heap.size)) (F0 m 36 ls []) := by
    intro K9 hK9 x0 x1 x2 x3 x5 x6 M H locs ls h hl hR hS
    refine lv_iconst (v := (1 : Int32)) hx hb dX4_orderOf_36 (by decide) ?_
    refine lv_goto (tgt := 41) hx hb dX4_orderOf_37 (by decide) ?_
    exact b41 _ hK9 _ _ _ _ _ _ _ _ _ _ _ h (lv_sub hl [0, 1, 2, 3, 4, 5] rfl) hR hS
  have L9 : ∀ (n : Nat), ∀ (x0 : Nat) (x1 : Int32) (x2 : Nat) (x3 : Int32) (x4 : Int32) (x5 : Int32) (x6 : Int32) (M : k_M) (H : Heap) (locs : List Loc) (ls : Array Slot), wp_X4_orderOf_L9 G post n x0 x1 x2 x3 x4 x5 x6 M → lv_has ls 7 [(0, .ref x0), (1, .int x1), (2, .ref x2), (3, .int x3), (4, .int x4), (5, .int x5), (6, .int x6)] → kR G M (kA M0 s.heap.size) H → va_S (kA M0 s.heap.size) s.heap H locs → W p l e (headSpec wsX4_orderOf ({ frames := 0, cells := 0, slots := 0, locals := 0 })).room s m ([.ref p0, .int p1, .ref p2, .int p3] : List Value).toArray below meth c H locs 0 0 (MQ below (va_Qi post (kB G M0 s.heap.size) (kA M0 s.heap.size)) ([.ref p0, .int p1, .ref p2, .int p3] : List Value).toArray s 0 0 (kA M0 s.heap.size)) (F0 m 9 ls []) := by
    intro n
    induction n with
    | zero =>
      intro  x0 x1 x2 x3 x4 x5 x6 M H locs ls h
      exact False.elim h
    | succ n ih =>
      intro  x0 x1 x2 x3 x4 x5 x6 M H locs ls h hl hR hS
      refine lv_iload hx hb dX4_orderOf_9 (lv_at hl 6 rfl) ?_
      refine lv_bipush (v := (17 : Int32)) hx hb dX4_orderOf_11 (by decide) ?_
      obtain ⟨ha, hb2⟩ := h
      refine lv_icmp_ge (tgt := 76) hx hb dX4_orderOf_13 (by decide) (fun hc => ?_) (fun hc => ?_)
      · replace h := ha hc
        refine lv_iload hx hb dX4_orderOf_76 (lv_at hl 4 rfl) ?_
        obtain ⟨ha, hb2⟩ := h
        refine lv_if_eq (tgt := 90) hx hb dX4_orderOf_78 (by decide) (fun hc => ?_) (fun hc => ?_)
        · replace h := ha hc
          exact b90 _ _ _ _ _ _ h (lv_sub hl [4, 5] rfl) hR hS
        · replace h := hb2 hc
          refine lv_iload hx hb dX4_orderOf_81 (lv_at hl 5 rfl) ?_
          obtain ⟨ha, hb2⟩ := h
          refine lv_if_eq (tgt := 90) hx hb dX4_orderOf_83 (by decide) (fun hc => ?_) (fun hc => ?_)
          · replace h := ha hc
            exact b90 _ _ _ _ _ _ h (lv_sub hl [4, 5] rfl) hR hS
          · replace h := hb2 hc
            refine lv_iconst (v := (3 : Int32)) hx hb dX4_orderOf_86 (by decide) ?_
            refine lv_goto (tgt := 109) hx hb dX4_orderOf_87 (by decide) ?_
            exact k_reti hx hb hr hlocks rfl hR hS h dX4_orderOf_109
      · replace h := hb2 hc
        refine lv_iload hx hb dX4_orderOf_16 (lv_at hl 4 rfl) ?_
        obtain ⟨ha, hb2⟩ := h
        refine lv_if_ne (tgt := 36) hx hb dX4_orderOf_18 (by decide) (fun hc => ?_) (fun hc => ?_)
        · replace h := ha hc
          exact b36 _ ih _ _ _ _ _ _ _ _ _ _ h (lv_sub hl [0, 1, 2, 3, 5, 6] rfl) hR hS
        · replace h := hb2 hc
          refine lv_aload_n hx hb dX4_orderOf_21 rfl (lv_at hl 0 rfl) ?_
          refine lv_iload_n hx hb dX4_orderOf_22 rfl (lv_at hl 1 rfl) ?_
          refine lv_iload hx hb dX4_orderOf_23 (lv_at hl 6 rfl) ?_
          refine lv_iadd hx hb dX4_orderOf_25 ?_
          obtain ⟨n10, f11, hm12, hv13, h⟩ := h
          refine k_iald hx hb hK hR hm12 hv13 dX4_orderOf_26 ?_
          refine lv_aload_n hx hb dX4_orderOf_27 rfl (lv_at hl 2 rfl) ?_
          refine lv_iload_n hx hb dX4_orderOf_28 rfl (lv_at hl 3 rfl) ?_
          refine lv_iload hx hb dX4_orderOf_29 (lv_at hl 6 rfl) ?_
          refine lv_iadd hx hb dX4_orderOf_31 ?_
          obtain ⟨n14, f15, hm16, hv17, h⟩ := h
          refine k_iald hx hb hK hR hm16 hv17 dX4_orderOf_32 ?_
          obtain ⟨ha, hb2⟩ := h
          refine lv_icmp_ge (tgt := 40) hx hb dX4_orderOf_33 (by decide) (fun hc => ?_) (fun hc => ?_)
          · replace h := ha hc
            refine lv_iconst (v := (0 : Int32)) hx hb dX4_orderOf_40 (by decide) ?_
            exact b41 _ ih _ _ _ _ _ _ _ _ _ _ _ h (lv_sub hl [0, 1, 2, 3, 5, 6] rfl) hR hS
          · replace h := hb2 hc
            exact b36 _ ih _ _ _ _ _ _ _ _ _ _ h (lv_sub hl [0, 1, 2, 3, 5, 6] rfl) hR hS
  have hl := lv_entry ([.ref p0, .int p1, .ref p2, .int p3]) (n := 7) (Nat.le_of_ble_eq_true rfl)
  rw [lg_entry_eq]
  generalize (lg_sl ([.ref p0, .int p1, .ref p2, .int p3]) ++ List.replicate (7 - (lg_sl ([.ref p0, .int p1, .ref p2, .int p3])).length) Slot.unset).toArray = ls at hl ⊢
  have hl : lv_has ls 7 [(0, .ref p0), (1, .int p1), (2, .ref p2), (3, .int p3)] := hl
  have hR0 := hR
  refine lv_iconst (v := (0 : Int32)) hx hb dX4_orderOf_0 (by decide) ?_
  refine lv_istore (lv' := [(4, .int (0 : Int32)), (0, .ref p0), (1, .int p1), (2, .ref p2), (3, .int p3)]) hx hb dX4_orderOf_1 hl (by decide) rfl (fun ls hl => ?_)
  refine lv_iconst (v := (0 : Int32)) hx hb dX4_orderOf_3 (by decide) ?_
  refine lv_istore (lv' := [(5, .int (0 : Int32)), (4, .int (0 : Int32)), (0, .ref p0), (1, .int p1), (2, .ref p2), (3, .int p3)]) hx hb dX4_orderOf_4 hl (by decide) rfl (fun ls hl => ?_)
  refine lv_iconst (v := (1 : Int32)) hx hb dX4_orderOf_6 (by decide) ?_
  refine lv_istore (lv' := [(6, .int (1 : Int32)), (5, .int (0 : Int32)), (4, .int (0 : Int32)), (0, .ref p0), (1, .int p1), (2, .ref p2), (3, .int p3)]) hx hb dX4_orderOf_7 hl (by decide) rfl (fun ls hl => ?_)
  obtain ⟨k1, h⟩ := h
  exact L9 k1 _ _ _ _ _ _ _ _ _ _ _ h (lv_sub hl [3, 4, 5, 6, 2, 1, 0] rfl) hR hS

def wp_X4_takeOver_L56 (G : k_G) (post : k_M → Prop) : Nat → Nat → Int32 → Nat → Int32 → Int32 → k_M → Prop
  | 0 => fun _ _ _ _ _ _ => False
  | n + 1 => fun x0 x1 x2 x3 x4 M =>
  (((21 : Int32) ≤ x4 →
      post M) ∧
      (¬ (21 : Int32) ≤ x4 →
      (∃ n3 f4, M x0 = some (kI G n3 f4) ∧ vp_in (x1 + x4) n3 ∧
        (∃ n7 f8, M x2 = some (kI G n7 f8) ∧ vp_in (x3 + x4) n7 ∧
        (∃ n11 f12, M x0 = some (kI G n11 f12) ∧ vp_in (x1 + x4) n11 ∧ ∀ M13 : k_M, M13 = va_up M x0 (some (kI G n11 (upd f12 ((x1 + x4)).toNatClampNeg ((f4 ((x1 + x4)).toNatClampNeg) ||| (f8 ((x3 + x4)).toNatClampNeg))))) →
        (wp_X4_takeOver_L56 G post n) x0 x1 x2 x3 (x4 + (1 : Int32)) M13)))))
def wp_X4_takeOver_b45 (G : k_G) (post : k_M → Prop) (K3 : Nat → Int32 → Nat → Int32 → Int32 → k_M → Prop) (x0 : Nat) (x1 : Int32) (x2 : Nat) (x3 : Int32) (x4 : Int32) (s0 : Int32) (s1 : Int32) (s2 : Nat) (M : k_M) : Prop :=
  (∃ n28 f29, M s2 = some (kI G n28 f29) ∧ vp_in s1 n28 ∧ ∀ M30 : k_M, M30 = va_up M s2 (some (kI G n28 (upd f29 (s1).toNatClampNeg s0))) →
    K3 x0 x1 x2 x3 (x4 + (1 : Int32)) M30)
def wp_X4_takeOver_L3 (G : k_G) (post : k_M → Prop) : Nat → Nat → Int32 → Nat → Int32 → Int32 → k_M → Prop
  | 0 => fun _ _ _ _ _ _ => False
  | n + 1 => fun x0 x1 x2 x3 x4 M =>
  (((17 : Int32) ≤ x4 →
      ∃ k2, wp_X4_takeOver_L56 G post k2 x0 x1 x2 x3 (17 : Int32) M) ∧
      (¬ (17 : Int32) ≤ x4 →
      (∃ n16 f17, M x2 = some (kI G n16 f17) ∧ vp_in (x3 + x4) n16 ∧
        (∃ n20 f21, M x0 = some (kI G n20 f21) ∧ vp_in (x1 + x4) n20 ∧
        (((f17 ((x3 + x4)).toNatClampNeg) ≤ (f21 ((x1 + x4)).toNatClampNeg) →
        (∃ n24 f25, M x0 = some (kI G n24 f25) ∧ vp_in (x1 + x4) n24 ∧
          wp_X4_takeOver_b45 G post (wp_X4_takeOver_L3 G post n) x0 x1 x2 x3 x4 (f25 ((x1 + x4)).toNatClampNeg) (x1 + x4) x0 M)) ∧
        (¬ (f17 ((x3 + x4)).toNatClampNeg) ≤ (f21 ((x1 + x4)).toNatClampNeg) →
        (∃ n33 f34, M x2 = some (kI G n33 f34) ∧ vp_in (x3 + x4) n33 ∧
          wp_X4_takeOver_b45 G post (wp_X4_takeOver_L3 G post n) x0 x1 x2 x3 x4 (f34 ((x3 + x4)).toNatClampNeg) (x1 + x4) x0 M)))))))
def wp_X4_takeOver (G : k_G) (post : k_M → Prop) (p0 : Nat) (p1 : Int32) (p2 : Nat) (p3 : Int32) (M0 : k_M) : Prop :=
  ∃ k1, wp_X4_takeOver_L3 G post k1 p0 p1 p2 p3 (1 : Int32) M0
set_option maxHeartbeats 4000000 in
set_option maxRecDepth 100000 in
theorem c_X4_takeOver (l : Launch) (G : k_G) (M0 : k_M) (sz : Nat) (post : k_M → Prop) (p0 : Nat) (p1 : Int32) (p2 : Nat) (p3 : Int32) (h : wp_X4_takeOver G post p0 p1 p2 p3 M0) : Met l yX4_takeOver wsX4_takeOver ({ frames := 0, cells := 0, slots := 0, locals := 0 }) (va_Pc [.ref p0, .int p1, .ref p2, .int p3] (kPre G M0 sz)) (va_Qv post (kB G M0 sz) (kA M0 sz)) 0 0 (kA M0 sz) := by
  refine Met.ofW (cc := cX4_takeOver) (maxL := 5) (ret := none) (by decide) rfl ?_
  intro p e s m args below meth c s₁ B hml hv
  obtain ⟨rfl, hsz, hR, hE⟩ := hv
  have hx := B.exec
  have hb := B.bytes
  have hr := B.returns
  have hts := atoms_spec (ws := wsX4_takeOver) B.pre
  have hown : s.vm.findClass RX4 = some m.cls := findClass_of_methodNamed B.named
  have hlocks := B.notSynchronized
  subst hsz
  have hK := hE.1
  have hA : ∀ q, s.heap.size ≤ q → kA M0 s.heap.size q := kA.new
  have hS : va_S (kA M0 s.heap.size) s.heap s.heap [] := va_S.rf
  have L56 : ∀ (n : Nat), ∀ (x0 : Nat) (x1 : Int32) (x2 : Nat) (x3 : Int32) (x4 : Int32) (M : k_M) (H : Heap) (locs : List Loc) (ls : Array Slot), wp_X4_takeOver_L56 G post n x0 x1 x2 x3 x4 M → lv_has ls 5 [(0, .ref x0), (1, .int x1), (2, .ref x2), (3, .int x3), (4, .int x4)] → kR G M (kA M0 s.heap.size) H → va_S (kA M0 s.heap.size) s.heap H locs → W p l e (headSpec wsX4_takeOver ({ frames := 0, cells := 0, slots := 0, locals := 0 })).room s m ([.ref p0, .int p1, .ref p2, .int p3] : List Value).toArray below meth c H locs 0 0 (MQ below (va_Qv post (kB G M0 s.heap.size) (kA M0 s.heap.size)) ([.ref p0, .int p1, .ref p2, .int p3] : List Value).toArray s 0 0 (kA M0 s.heap.size)) (F0 m 56 ls []) := by
    intro n
    induction n with
    | zero =>
      intro  x0 x1 x2 x3 x4 M H locs ls h
      exact False.elim h
    | succ n ih =>
      intro  x0 x1 x2 x3 x4 M H locs ls h hl hR hS
      refine lv_iload hx hb dX4_takeOver_56 (lv_at hl 4 rfl) ?_
      refine lv_bipush (v := (21 : Int32)) hx hb dX4_takeOver_58 (by decide) ?_
      obtain ⟨ha, hb2⟩ := h
      refine lv_icmp_ge (tgt := 84) hx hb dX4_takeOver_60 (by decide) (fun hc => ?_) (fun hc => ?_)
      · replace h := ha hc
        exact k_retv hx hb hr hlocks hR hS h dX4_takeOver_84
      · replace h := hb2 hc
        refine lv_aload_n hx hb dX4_takeOver_63 rfl (lv_at hl 0 rfl) ?_
        refine lv_iload_n hx hb dX4_takeOver_64 rfl (lv_at hl 1 rfl) ?_
        refine lv_iload hx hb dX4_takeOver_65 (lv_at hl 4 rfl) ?_
        refine lv_iadd hx hb dX4_takeOver_67 ?_
        refine lv_dup2_11 hx hb dX4_takeOver_68 rfl rfl ?_
        obtain ⟨n3, f4, hm5, hv6, h⟩ := h
        refine k_iald hx hb hK hR hm5 hv6 dX4_takeOver_69 ?_
        refine lv_aload_n hx hb dX4_takeOver_70 rfl (lv_at hl 2 rfl) ?_
        refine lv_iload_n hx hb dX4_takeOver_71 rfl (lv_at hl 3 rfl) ?_
        refine lv_iload hx hb dX4_takeOver_72 (lv_at hl 4 rfl) ?_
        refine lv_iadd hx hb dX4_takeOver_74 ?_
        obtain ⟨n7, f8, hm9, hv10, h⟩ := h
        refine k_iald hx hb hK hR hm9 hv10 dX4_takeOver_75 ?_
        refine lv_ior hx hb dX4_takeOver_76 ?_
        obtain ⟨n11, f12, hm14, hv15, h⟩ := h
        replace h := h _ rfl
        refine k_iast hx hb hK hR hS hm14 hv15 dX4_takeOver_77 (fun H locs hR hS => ?_)
        refine lv_iinc (v := (x4 + (1 : Int32))) (lv' := [(4, .int (x4 + (1 : Int32))), (0, .ref x0), (1, .int x1), (2, .ref x2), (3, .int x3)]) hx hb dX4_takeOver_78 hl (k := 4) rfl rfl (by decide) rfl (fun ls hl => ?_)
        refine lv_goto (tgt := 56) hx hb dX4_takeOver_81 (by decide) ?_
        exact ih _ _ _ _ _ _ _ _ _ h (lv_sub hl [1, 2, 3, 4, 0] rfl) hR hS
  have b45 : ∀ (K3 : Nat → Int32 → Nat → Int32 → Int32 → k_M → Prop) (hK3 : ∀ (x0 : Nat) (x1 : Int32) (x2 : Nat) (x3 : Int32) (x4 : Int32) (M : k_M) (H : Heap) (locs : List Loc) (ls : Array Slot), K3 x0 x1 x2 x3 x4 M → lv_has ls 5 [(0, .ref x0), (1, .int x1), (2, .ref x2), (3, .int x3), (4, .int x4)] → kR G M (kA M0 s.heap.size) H → va_S (kA M0 s.heap.size) s.heap H locs → W p l e (headSpec wsX4_takeOver ({ frames := 0, cells := 0, slots := 0, locals := 0 })).room s m ([.ref p0, .int p1, .ref p2, .int p3] : List Value).toArray below meth c H locs 0 0 (MQ below (va_Qv post (kB G M0 s.heap.size) (kA M0 s.heap.size)) ([.ref p0, .int p1, .ref p2, .int p3] : List Value).toArray s 0 0 (kA M0 s.heap.size)) (F0 m 3 ls [])), ∀ (x0 : Nat) (x1 : Int32) (x2 : Nat) (x3 : Int32) (x4 : Int32) (s0 : Int32) (s1 : Int32) (s2 : Nat) (M : k_M) (H : Heap) (locs : List Loc) (ls : Array Slot), wp_X4_takeOver_b45 G post K3 x0 x1 x2 x3 x4 s0 s1 s2 M → lv_has ls 5 [(0, .ref x0), (1, .int x1), (2, .ref x2), (3, .int x3), (4, .int x4)] → kR G M (kA M0 s.heap.size) H → va_S (kA M0 s.heap.size) s.heap H locs → W p l e (headSpec wsX4_takeOver ({ frames := 0, cells := 0, slots := 0, locals := 0 })).room s m ([.ref p0, .int p1, .ref p2, .int p3] : List Value).toArray below meth c H locs 0 0 (MQ below (va_Qv post (kB G M0 s.heap.size) (kA M0 s.heap.size)) ([.ref p0, .int p1, .ref p2, .int p3] : List Value).toArray s 0 0 (kA M0 s.heap.size)) (F0 m 45 ls [.int s0, .int s1, .ref s2]) := by
    intro K3 hK3 x0 x1 x2 x3 x4 s0 s1 s2 M H locs ls h hl hR hS
    obtain ⟨n28, f29, hm31, hv32, h⟩ := h
    replace h := h _ rfl
    refine k_iast hx hb hK hR hS hm31 hv32 dX4_takeOver_45 (fun H locs hR hS => ?_)
    refine lv_iinc (v := (x4 + (1 : Int32))) (lv' := [(4, .int (x4 + (1 : Int32))), (0, .ref x0), (1, .int x1), (2, .ref x2), (3, .int x3)]) hx hb dX4_takeOver_46 hl (k := 4) rfl rfl (by decide) rfl (fun ls hl => ?_)
    refine lv_goto (tgt := 3) hx hb dX4_takeOver_49 (by decide) ?_
    exact hK3 _ _ _ _ _ _ _ _ _ h (lv_sub hl [1, 2, 3, 4, 0] rfl) hR hS
  have L3 : ∀ (n : Nat), ∀ (x0 : Nat) (x1 : Int32) (x2 : Nat) (x3 : Int32) (x4 : Int32) (M : k_M) (H : Heap) (locs : List Loc) (ls : Array Slot), wp_X4_takeOver_L3 G post n x0 x1 x2 x3 x4 M → lv_has ls 5 [(0, .ref x0), (1, .int x1), (2, .ref x2), (3, .int x3), (4, .int x4)] → kR G M (kA M0 s.heap.size) H → va_S (kA M0 s.heap.size) s.heap H locs → W p l e (headSpec wsX4_takeOver ({ frames := 0, cells := 0, slots := 0, locals := 0 })).room s m ([.ref p0, .int p1, .ref p2, .int p3] : List Value).toArray below meth c H locs 0 0 (MQ below (va_Qv post (kB G M0 s.heap.size) (kA M0 s.heap.size)) ([.ref p0, .int p1, .ref p2, .int p3] : List Value).toArray s 0 0 (kA M0 s.heap.size)) (F0 m 3 ls []) := by
    intro n
    induction n with
    | zero =>
      intro  x0 x1 x2 x3 x4 M H locs ls h
      exact False.elim h
    | succ n ih =>
      intro  x0 x1 x2 x3 x4 M H locs ls h hl hR hS
      refine lv_iload hx hb dX4_takeOver_3 (lv_at hl 4 rfl) ?_
      refine lv_bipush (v := (17 : Int32)) hx hb dX4_takeOver_5 (by decide) ?_
      obtain ⟨ha, hb2⟩ := h
      refine lv_icmp_ge (tgt := 52) hx hb dX4_takeOver_7 (by decide) (fun hc => ?_) (fun hc => ?_)
      · replace h := ha hc
        refine lv_bipush (v := (17 : Int32)) hx hb dX4_takeOver_52 (by decide) ?_
        refine lv_istore (lv' := [(4, .int (17 : Int32)), (0, .ref x0), (1, .int x1), (2, .ref x2), (3, .int x3)]) hx hb dX4_takeOver_54 hl (by decide) rfl (fun ls hl => ?_)
        obtain ⟨k2, h⟩ := h
        exact L56 k2 _ _ _ _ _ _ _ _ _ h (lv_sub hl [1, 2, 3, 4, 0] rfl) hR hS
      · replace h := hb2 hc
        refine lv_aload_n hx hb dX4_takeOver_10 rfl (lv_at hl 0 rfl) ?_
        refine lv_iload_n hx hb dX4_takeOver_11 rfl (lv_at hl 1 rfl) ?_
        refine lv_iload hx hb dX4_takeOver_12 (lv_at hl 4 rfl) ?_
        refine lv_iadd hx hb dX4_takeOver_14 ?_
        refine lv_aload_n hx hb dX4_takeOver_15 rfl (lv_at hl 2 rfl) ?_
        refine lv_iload_n hx hb dX4_takeOver_16 rfl (lv_at hl 3 rfl) ?_
        refine lv_iload hx hb dX4_takeOver_17 (lv_at hl 4 rfl) ?_
        refine lv_iadd hx hb dX4_takeOver_19 ?_
        obtain ⟨n16, f17, hm18, hv19, h⟩ := h
        refine k_iald hx hb hK hR hm18 hv19 dX4_takeOver_20 ?_
        refine lv_aload_n hx hb dX4_takeOver_21 rfl (lv_at hl 0 rfl) ?_
        refine lv_iload_n hx hb dX4_takeOver_22 rfl (lv_at hl 1 rfl) ?_
        refine lv_iload hx hb dX4_takeOver_23 (lv_at hl 4 rfl) ?_
        refine lv_iadd hx hb dX4_takeOver_25 ?_
        obtain ⟨n20, f21, hm22, hv23, h⟩ := h
        refine k_iald hx hb hK hR hm22 hv23 dX4_takeOver_26 ?_
        obtain ⟨ha, hb2⟩ := h
        refine lv_icmp_le (tgt := 39) hx hb dX4_takeOver_27 (by decide) (fun hc => ?_) (fun hc => ?_)
        · replace h := ha hc
          refine lv_aload_n hx hb dX4_takeOver_39 rfl (lv_at hl 0 rfl) ?_
          refine lv_iload_n hx hb dX4_takeOver_40 rfl (lv_at hl 1 rfl) ?_
          refine lv_iload hx hb dX4_takeOver_41 (lv_at hl 4 rfl) ?_
          refine lv_iadd hx hb dX4_takeOver_43 ?_
          obtain ⟨n24, f25, hm26, hv27, h⟩ := h
          refine k_iald hx hb hK hR hm26 hv27 dX4_takeOver_44 ?_
          exact b45 _ ih _ _ _ _ _ _ _ _ _ _ _ _ h (lv_sub hl [0, 1, 2, 3, 4] rfl) hR hS
        · replace h := hb2 hc
          refine lv_aload_n hx hb dX4_takeOver_30 rfl (lv_at hl 2 rfl) ?_
          refine lv_iload_n hx hb dX4_takeOver_31 rfl (lv_at hl 3 rfl) ?_
          refine lv_iload hx hb dX4_takeOver_32 (lv_at hl 4 rfl) ?_
          refine lv_iadd hx hb dX4_takeOver_34 ?_
          obtain ⟨n33, f34, hm35, hv36, h⟩ := h
          refine k_iald hx hb hK hR hm35 hv36 dX4_takeOver_35 ?_
          refine lv_goto (tgt := 45) hx hb dX4_takeOver_36 (by decide) ?_
          exact b45 _ ih _ _ _ _ _ _ _ _ _ _ _ _ h (lv_sub hl [0, 1, 2, 3, 4] rfl) hR hS
  have hl := lv_entry ([.ref p0, .int p1, .ref p2, .int p3]) (n := 5) (Nat.le_of_ble_eq_true rfl)
  rw [lg_entry_eq]
  generalize (lg_sl ([.ref p0, .int p1, .ref p2, .int p3]) ++ List.replicate (5 - (lg_sl ([.ref p0, .int p1, .ref p2, .int p3])).length) Slot.unset).toArray = ls at hl ⊢
  have hl : lv_has ls 5 [(0, .ref p0), (1, .int p1), (2, .ref p2), (3, .int p3)] := hl
  have hR0 := hR
  refine lv_iconst (v := (1 : Int32)) hx hb dX4_takeOver_0 (by decide) ?_
  refine lv_istore (lv' := [(4, .int (1 : Int32)), (0, .ref p0), (1, .int p1), (2, .ref p2), (3, .int p3)]) hx hb dX4_takeOver_1 hl (by decide) rfl (fun ls hl => ?_)
  obtain ⟨k1, h⟩ := h
  exact L3 k1 _ _ _ _ _ _ _ _ _ h (lv_sub hl [1, 2, 3, 4, 0] rfl) hR hS

def wp_X4_knownMany_L5 (G : k_G) (post : Int32 → k_M → Prop) : Nat → Nat → Int32 → Int32 → Int32 → k_M → Prop
  | 0 => fun _ _ _ _ _ => False
  | n + 1 => fun x0 x1 x2 x3 M =>
  (((21 : Int32) ≤ x3 →
      post x2 M) ∧
      (¬ (21 : Int32) ≤ x3 →
      (∃ n2 f3, M x0 = some (kI G n2 f3) ∧ vp_in (x1 + x3) n2 ∧
        wp_X4_bits G (fun r6 M7 =>
        (wp_X4_knownMany_L5 G post n) x0 x1 (x2 + r6) (x3 + (1 : Int32)) M7) (f3 ((x1 + x3)).toNatClampNeg) M)))
def wp_X4_knownMany (G : k_G) (post : Int32 → k_M → Prop) (p0 : Nat) (p1 : Int32) (M0 : k_M) : Prop :=
  ∃ k1, wp_X4_knownMany_L5 G post k1 p0 p1 (0 : Int32) (17 : Int32) M0
set_option maxHeartbeats 4000000 in
set_option maxRecDepth 100000 in
theorem c_X4_knownMany (l : Launch) (G : k_G) (M0 : k_M) (sz : Nat) (post : Int32 → k_M → Prop) (p0 : Nat) (p1 : Int32) (h : wp_X4_knownMany G post p0 p1 M0) : Met l yX4_knownMany wsX4_knownMany ({ frames := 1, cells := 0, slots := 0, locals := 22 }) (va_Pc [.ref p0, .int p1] (kPre G M0 sz)) (va_Qi post (kB G M0 sz) (kA M0 sz)) 0 0 (kA M0 sz) := by
  refine Met.ofW (cc := cX4_knownMany) (maxL := 4) (ret := (some .int)) (by decide) rfl ?_
  intro p e s m args below meth c s₁ B hml hv
  obtain ⟨rfl, hsz, hR, hE⟩ := hv
  have hx := B.exec
  have hb := B.bytes
  have hr := B.returns
  have hts := atoms_spec (ws := wsX4_knownMany) B.pre
  have hown : s.vm.findClass RX4 = some m.cls := findClass_of_methodNamed B.named
  have hlocks := B.notSynchronized
  subst hsz
  have hK := hE.1
  have hA : ∀ q, s.heap.size ≤ q → kA M0 s.heap.size q := kA.new
  have hS : va_S (kA M0 s.heap.size) s.heap s.heap [] := va_S.rf
  have L5 : ∀ (n : Nat), ∀ (x0 : Nat) (x1 : Int32) (x2 : Int32) (x3 : Int32) (M : k_M) (H : Heap) (locs : List Loc) (ls : Array Slot), wp_X4_knownMany_L5 G post n x0 x1 x2 x3 M → lv_has ls 4 [(0, .ref x0), (1, .int x1), (2, .int x2), (3, .int x3)] → kR G M (kA M0 s.heap.size) H → va_S (kA M0 s.heap.size) s.heap H locs → W p l e (headSpec wsX4_knownMany ({ frames := 1, cells := 0, slots := 0, locals := 22 })).room s m ([.ref p0, .int p1] : List Value).toArray below meth c H locs 0 0 (MQ below (va_Qi post (kB G M0 s.heap.size) (kA M0 s.heap.size)) ([.ref p0, .int p1] : List Value).toArray s 0 0 (kA M0 s.heap.size)) (F0 m 5 ls []) := by
    intro n
    induction n with
    | zero =>
      intro  x0 x1 x2 x3 M H locs ls h
      exact False.elim h
    | succ n ih =>
      intro  x0 x1 x2 x3 M H locs ls h hl hR hS
      refine lv_iload_n hx hb dX4_knownMany_5 rfl (lv_at hl 3 rfl) ?_
      refine lv_bipush (v := (21 : Int32)) hx hb dX4_knownMany_6 (by decide) ?_
      obtain ⟨ha, hb2⟩ := h
      refine lv_icmp_ge (tgt := 28) hx hb dX4_knownMany_8 (by decide) (fun hc => ?_) (fun hc => ?_)
      · replace h := ha hc
        refine lv_iload_n hx hb dX4_knownMany_28 rfl (lv_at hl 2 rfl) ?_
        exact k_reti hx hb hr hlocks rfl hR hS h dX4_knownMany_29
      · replace h := hb2 hc
        refine lv_iload_n hx hb dX4_knownMany_11 rfl (lv_at hl 2 rfl) ?_
        refine lv_aload_n hx hb dX4_knownMany_12 rfl (lv_at hl 0 rfl) ?_
        refine lv_iload_n hx hb dX4_knownMany_13 rfl (lv_at hl 1 rfl) ?_
        refine lv_iload_n hx hb dX4_knownMany_14 rfl (lv_at hl 3 rfl) ?_
        refine lv_iadd hx hb dX4_knownMany_15 ?_
        obtain ⟨n2, f3, hm4, hv5, h⟩ := h
        refine k_iald hx hb hK hR hm4 hv5 dX4_knownMany_16 ?_
        refine k_calli0 (va_runS (As := [.int (f3 ((x1 + x3)).toNatClampNeg)]) (rest := [.int x2]) ⟨hx, hb, hml, hown, hts⟩ (c_X4_bits l G _ _ _ (f3 ((x1 + x3)).toNatClampNeg) h) (va_cwS 1 hts gX4_knownMany_X4_bits rfl rfl rfl (by decide +kernel) ⟨Nat.le_of_ble_eq_true rfl, Nat.le_of_ble_eq_true rfl⟩) (k_preS hR hS hA hE) rfl rfl hl.1 rfl (lv_room (Nat.le_of_ble_eq_true rfl)) dX4_knownMany_17 ⟨Nat.zero_le _, Nat.zero_le _⟩) hR hS hA (fun r6 M7 H locs h hR hS => ?_)
        refine lv_iadd hx hb dX4_knownMany_20 ?_
        refine lv_istore_n (lv' := [(2, .int (x2 + r6)), (0, .ref x0), (1, .int x1), (3, .int x3)]) hx hb dX4_knownMany_21 rfl hl (by decide) rfl (fun ls hl => ?_)
        refine lv_iinc (v := (x3 + (1 : Int32))) (lv' := [(3, .int (x3 + (1 : Int32))), (2, .int (x2 + r6)), (0, .ref x0), (1, .int x1)]) hx hb dX4_knownMany_22 hl (k := 3) rfl rfl (by decide) rfl (fun ls hl => ?_)
        refine lv_goto (tgt := 5) hx hb dX4_knownMany_25 (by decide) ?_
        exact ih _ _ _ _ _ _ _ _ h (lv_sub hl [2, 3, 1, 0] rfl) hR hS
  have hl := lv_entry ([.ref p0, .int p1]) (n := 4) (Nat.le_of_ble_eq_true rfl)
  rw [lg_entry_eq]
  generalize (lg_sl ([.ref p0, .int p1]) ++ List.replicate (4 - (lg_sl ([.ref p0, .int p1])).length) Slot.unset).toArray = ls at hl ⊢
  have hl : lv_has ls 4 [(0, .ref p0), (1, .int p1)] := hl
  have hR0 := hR
  refine lv_iconst (v := (0 : Int32)) hx hb dX4_knownMany_0 (by decide) ?_
  refine lv_istore_n (lv' := [(2, .int (0 : Int32)), (0, .ref p0), (1, .int p1)]) hx hb dX4_knownMany_1 rfl hl (by decide) rfl (fun ls hl => ?_)
  refine lv_bipush (v := (17 : Int32)) hx hb dX4_knownMany_2 (by decide) ?_
  refine lv_istore_n (lv' := [(3, .int (17 : Int32)), (2, .int (0 : Int32)), (0, .ref p0), (1, .int p1)]) hx hb dX4_knownMany_4 rfl hl (by decide) rfl (fun ls hl => ?_)
  obtain ⟨k1, h⟩ := h
  exact L5 k1 _ _ _ _ _ _ _ _ h (lv_sub hl [2, 3, 1, 0] rfl) hR hS

def wp_X4_isOwn (G : k_G) (post : Int32 → k_M → Prop) (p0 : Nat) (p1 : Int32) (p2 : Int32) (M0 : k_M) : Prop :=
  (∃ n1 f2, M0 p0 = some (kI G n1 f2) ∧ vp_in (p1 + (0 : Int32)) n1 ∧
  ((¬ (((f2 ((p1 + (0 : Int32))).toNatClampNeg) >>> (p2 &&& 31)) &&& (1 : Int32)) = (1 : Int32) →
  post (0 : Int32) M0) ∧
  ((((f2 ((p1 + (0 : Int32))).toNatClampNeg) >>> (p2 &&& 31)) &&& (1 : Int32)) = (1 : Int32) →
  post (1 : Int32) M0)))
set_option maxHeartbeats 4000000 in
set_option maxRecDepth 100000 in
theorem c_X4_isOwn (l : Launch) (G : k_G) (M0 : k_M) (sz : Nat) (post : Int32 → k_M → Prop) (p0 : Nat) (p1 : Int32) (p2 : Int32) (h : wp_X4_isOwn G post p0 p1 p2 M0) : Met l yX4_isOwn wsX4_isOwn ({ frames := 0, cells := 0, slots := 0, locals := 0 }) (va_Pc [.ref p0, .int p1, .int p2] (kPre G M0 sz)) (va_Qi post (kB G M0 sz) (kA M0 sz)) 0 0 (kA M0 sz) := by
  refine Met.ofW (cc := cX4_isOwn) (maxL := 3) (ret := (some .boolean)) (by decide) rfl ?_
  intro p e s m args below meth c s₁ B hml hv
  obtain ⟨rfl, hsz, hR, hE⟩ := hv
  have hx := B.exec
  have hb := B.bytes
  have hr := B.returns
  have hts := atoms_spec (ws := wsX4_isOwn) B.pre
  have hown : s.vm.findClass RX4 = some m.cls := findClass_of_methodNamed B.named
  have hlocks := B.notSynchronized
  subst hsz
  have hK := hE.1
  have hA : ∀ q, s.heap.size ≤ q → kA M0 s.heap.size q := kA.new
  have hS : va_S (kA M0 s.heap.size) s.heap s.heap [] := va_S.rf
  have hl := lv_entry ([.ref p0, .int p1, .int p2]) (n := 3) (Nat.le_of_ble_eq_true rfl)
  rw [lg_entry_eq]
  generalize (lg_sl ([.ref p0, .int p1, .int p2]) ++ List.replicate (3 - (lg_sl ([.ref p0, .int p1, .int p2])).length) Slot.unset).toArray = ls at hl ⊢
  have hl : lv_has ls 3 [(0, .ref p0), (1, .int p1), (2, .int p2)] := hl
  have hR0 := hR
  refine lv_aload_n hx hb dX4_isOwn_0 rfl (lv_at hl 0 rfl) ?_
  refine lv_iload_n hx hb dX4_isOwn_1 rfl (lv_at hl 1 rfl) ?_
  refine lv_iconst (v := (0 : Int32)) hx hb dX4_isOwn_2 (by decide) ?_
  refine lv_iadd hx hb dX4_isOwn_3 ?_
  obtain ⟨n1, f2, hm3, hv4, h⟩ := h
  refine k_iald hx hb hK hR hm3 hv4 dX4_isOwn_4 ?_
  refine lv_iload_n hx hb dX4_isOwn_5 rfl (lv_at hl 2 rfl) ?_
  refine lv_ishr hx hb dX4_isOwn_6 ?_
  refine lv_iconst (v := (1 : Int32)) hx hb dX4_isOwn_7 (by decide) ?_
  refine lv_iand hx hb dX4_isOwn_8 ?_
  refine lv_iconst (v := (1 : Int32)) hx hb dX4_isOwn_9 (by decide) ?_
  obtain ⟨ha, hb2⟩ := h
  refine lv_icmp_ne (tgt := 17) hx hb dX4_isOwn_10 (by decide) (fun hc => ?_) (fun hc => ?_)
  · replace h := ha hc
    refine lv_iconst (v := (0 : Int32)) hx hb dX4_isOwn_17 (by decide) ?_
    exact k_reti hx hb hr hlocks (by decide) hR hS h dX4_isOwn_18
  · replace h := hb2 hc
    refine lv_iconst (v := (1 : Int32)) hx hb dX4_isOwn_13 (by decide) ?_
    refine lv_goto (tgt := 18) hx hb dX4_isOwn_14 (by decide) ?_
    exact k_reti hx hb hr hlocks (by decide) hR hS h dX4_isOwn_18

def wp_X4_raise_b147 (G : k_G) (post : k_M → Prop) (K101 : Nat → Int32 → Int32 → Int32 → Int32 → k_M → Prop) (x0 : Nat) (x1 : Int32) (x2 : Int32) (x3 : Int32) (x4 : Int32) (s0 : Int32) (s1 : Int32) (s2 : Nat) (M : k_M) : Prop :=
  (∃ n11 f12, M s2 = some (kI G n11 f12) ∧ vp_in s1 n11 ∧ ∀ M13 : k_M, M13 = va_up M s2 (some (kI G n11 (upd f12 (s1).toNatClampNeg s0))) →
    K101 x0 x1 x2 x3 (x4 + (1 : Int32)) M13)
def wp_X4_raise_L101 (G : k_G) (post : k_M → Prop) : Nat → Nat → Int32 → Int32 → Int32 → Int32 → k_M → Prop
  | 0 => fun _ _ _ _ _ _ => False
  | n + 1 => fun x0 x1 x2 x3 x4 M =>
  (((16 : Int32) ≤ x4 →
      post M) ∧
      (¬ (16 : Int32) ≤ x4 →
      wp_X4_isOwn G (fun r4 M5 =>
        ((r4 = 0 →
        (∃ n7 f8, M5 x0 = some (kI G n7 f8) ∧ vp_in ((x1 + (1 : Int32)) + x4) n7 ∧
          wp_X4_raise_b147 G post (wp_X4_raise_L101 G post n) x0 x1 x2 x3 x4 (f8 (((x1 + (1 : Int32)) + x4)).toNatClampNeg) ((x1 + (1 : Int32)) + x4) x0 M5)) ∧
        (¬ r4 = 0 →
        ((x3 = 0 →
          wp_X4_raise_b147 G post (wp_X4_raise_L101 G post n) x0 x1 x2 x3 x4 (x2 + (1 : Int32)) ((x1 + (1 : Int32)) + x4) x0 M5) ∧
          (¬ x3 = 0 →
          wp_X4_raise_b147 G post (wp_X4_raise_L101 G post n) x0 x1 x2 x3 x4 x2 ((x1 + (1 : Int32)) + x4) x0 M5))))) x0 x1 x4 M))
def wp_X4_raise_L53 (G : k_G) (post : k_M → Prop) : Nat → Nat → Int32 → Int32 → Int32 → Int32 → k_M → Prop
  | 0 => fun _ _ _ _ _ _ => False
  | n + 1 => fun x0 x1 x2 x3 x4 M =>
  (((16 : Int32) ≤ x4 →
      ∃ k3, wp_X4_raise_L101 G post k3 x0 x1 x2 x3 (0 : Int32) M) ∧
      (¬ (16 : Int32) ≤ x4 →
      ((¬ x3 = 0 →
        (wp_X4_raise_L53 G post n) x0 x1 x2 (1 : Int32) (x4 + (1 : Int32)) M) ∧
        (x3 = 0 →
        wp_X4_isOwn G (fun r16 M17 =>
          ((r16 = 0 →
          (wp_X4_raise_L53 G post n) x0 x1 x2 (0 : Int32) (x4 + (1 : Int32)) M17) ∧
          (¬ r16 = 0 →
          (∃ n19 f20, M17 x0 = some (kI G n19 f20) ∧ vp_in ((x1 + (1 : Int32)) + x4) n19 ∧
            ((x2 ≤ (f20 (((x1 + (1 : Int32)) + x4)).toNatClampNeg) →
            (wp_X4_raise_L53 G post n) x0 x1 x2 (0 : Int32) (x4 + (1 : Int32)) M17) ∧
            (¬ x2 ≤ (f20 (((x1 + (1 : Int32)) + x4)).toNatClampNeg) →
            (wp_X4_raise_L53 G post n) x0 x1 x2 (1 : Int32) (x4 + (1 : Int32)) M17)))))) x0 x1 x4 M))))
def wp_X4_raise_L4 (G : k_G) (post : k_M → Prop) : Nat → Nat → Int32 → Int32 → Int32 → k_M → Prop
  | 0 => fun _ _ _ _ _ => False
  | n + 1 => fun x0 x1 x2 x3 M =>
  (((16 : Int32) ≤ x3 →
      ∃ k2, wp_X4_raise_L53 G post k2 x0 x1 x2 (0 : Int32) (0 : Int32) M) ∧
      (¬ (16 : Int32) ≤ x3 →
      wp_X4_isOwn G (fun r23 M24 =>
        ((r23 = 0 →
        (wp_X4_raise_L4 G post n) x0 x1 x2 (x3 + (1 : Int32)) M24) ∧
        (¬ r23 = 0 →
        (∃ n26 f27, M24 x0 = some (kI G n26 f27) ∧ vp_in ((x1 + (1 : Int32)) + x3) n26 ∧
          (((f27 (((x1 + (1 : Int32)) + x3)).toNatClampNeg) ≤ x2 →
          (wp_X4_raise_L4 G post n) x0 x1 x2 (x3 + (1 : Int32)) M24) ∧
          (¬ (f27 (((x1 + (1 : Int32)) + x3)).toNatClampNeg) ≤ x2 →
          (∃ n30 f31, M24 x0 = some (kI G n30 f31) ∧ vp_in ((x1 + (1 : Int32)) + x3) n30 ∧
            (∀ y34 : Int32, y34 = (f31 (((x1 + (1 : Int32)) + x3)).toNatClampNeg) →
            (wp_X4_raise_L4 G post n) x0 x1 y34 (x3 + (1 : Int32)) M24)))))))) x0 x1 x3 M))
def wp_X4_raise (G : k_G) (post : k_M → Prop) (p0 : Nat) (p1 : Int32) (M0 : k_M) : Prop :=
  ∃ k1, wp_X4_raise_L4 G post k1 p0 p1 (0 : Int32) (0 : Int32) M0
set_option maxHeartbeats 4000000 in
set_option maxRecDepth 100000 in
theorem c_X4_raise (l : Launch) (G : k_G) (M0 : k_M) (sz : Nat) (post : k_M → Prop) (p0 : Nat) (p1 : Int32) (h : wp_X4_raise G post p0 p1 M0) : Met l yX4_raise wsX4_raise ({ frames := 1, cells := 0, slots := 0, locals := 22 }) (va_Pc [.ref p0, .int p1] (kPre G M0 sz)) (va_Qv post (kB G M0 sz) (kA M0 sz)) 0 0 (kA M0 sz) := by
  refine Met.ofW (cc := cX4_raise) (maxL := 5) (ret := none) (by decide) rfl ?_
  intro p e s m args below meth c s₁ B hml hv
  obtain ⟨rfl, hsz, hR, hE⟩ := hv
  have hx := B.exec
  have hb := B.bytes
  have hr := B.returns
  have hts := atoms_spec (ws := wsX4_raise) B.pre
  have hown : s.vm.findClass RX4 = some m.cls := findClass_of_methodNamed B.named
  have hlocks := B.notSynchronized
  subst hsz
  have hK := hE.1
  have hA : ∀ q, s.heap.size ≤ q → kA M0 s.heap.size q := kA.new
  have hS : va_S (kA M0 s.heap.size) s.heap s.heap [] := va_S.rf
  have b147 : ∀ (K101 : Nat → Int32 → Int32 → Int32 → Int32 → k_M → Prop) (hK101 : ∀ (x0 : Nat) (x1 : Int32) (x2 : Int32) (x3 : Int32) (x4 : Int32) (M : k_M) (H : Heap) (locs : List Loc) (ls : Array Slot), K101 x0 x1 x2 x3 x4 M → lv_has ls 5 [(0, .ref x0), (1, .int x1), (2, .int x2), (3, .int x3), (4, .int x4)] → kR G M (kA M0 s.heap.size) H → va_S (kA M0 s.heap.size) s.heap H locs → W p l e (headSpec wsX4_raise ({ frames := 1, cells := 0, slots := 0, locals := 22 })).room s m ([.ref p0, .int p1] : List Value).toArray below meth c H locs 0 0 (MQ below (va_Qv post (kB G M0 s.heap.size) (kA M0 s.heap.size)) ([.ref p0, .int p1] : List Value).toArray s 0 0 (kA M0 s.heap.size)) (F0 m 101 ls [])), ∀ (x0 : Nat) (x1 : Int32) (x2 : Int32) (x3 : Int32) (x4 : Int32) (s0 : Int32) (s1 : Int32) (s2 : Nat) (M : k_M) (H : Heap) (locs : List Loc) (ls : Array Slot), wp_X4_raise_b147 G post K101 x0 x1 x2 x3 x4 s0 s1 s2 M → lv_has ls 5 [(0, .ref x0), (1, .int x1), (2, .int x2), (3, .int x3), (4, .int x4)] → kR G M (kA M0 s.heap.size) H → va_S (kA M0 s.heap.size) s.heap H locs → W p l e (headSpec wsX4_raise ({ frames := 1, cells := 0, slots := 0, locals := 22 })).room s m ([.ref p0, .int p1] : List Value).toArray below meth c H locs 0 0 (MQ below (va_Qv post (kB G M0 s.heap.size) (kA M0 s.heap.size)) ([.ref p0, .int p1] : List Value).toArray s 0 0 (kA M0 s.heap.size)) (F0 m 147 ls [.int s0, .int s1, .ref s2]) := by
    intro K101 hK101 x0 x1 x2 x3 x4 s0 s1 s2 M H locs ls h hl hR hS
    obtain ⟨n11, f12, hm14, hv15, h⟩ := h
    replace h := h _ rfl
    refine k_iast hx hb hK hR hS hm14 hv15 dX4_raise_147 (fun H locs hR hS => ?_)
    refine lv_iinc (v := (x4 + (1 : Int32))) (lv' := [(4, .int (x4 + (1 : Int32))), (0, .ref x0), (1, .int x1), (2, .int x2), (3, .int x3)]) hx hb dX4_raise_148 hl (k := 4) rfl rfl (by decide) rfl (fun ls hl => ?_)
    refine lv_goto (tgt := 101) hx hb dX4_raise_151 (by decide) ?_
    exact hK101 _ _ _ _ _ _ _ _ _ h (lv_sub hl [1, 2, 3, 4, 0] rfl) hR hS
  have L101 : ∀ (n : Nat), ∀ (x0 : Nat) (x1 : Int32) (x2 : Int32) (x3 : Int32) (x4 : Int32) (M : k_M) (H : Heap) (locs : List Loc) (ls : Array Slot), wp_X4_raise_L101 G post n x0 x1 x2 x3 x4 M → lv_has ls 5 [(0, .ref x0), (1, .int x1), (2, .int x2), (3, .int x3), (4, .int x4)] → kR G M (kA M0 s.heap.size) H → va_S (kA M0 s.heap.size) s.heap H locs → W p l e (headSpec wsX4_raise ({ frames := 1, cells := 0, slots := 0, locals := 22 })).room s m ([.ref p0, .int p1] : List Value).toArray below meth c H locs 0 0 (MQ below (va_Qv post (kB G M0 s.heap.size) (kA M0 s.heap.size)) ([.ref p0, .int p1] : List Value).toArray s 0 0 (kA M0 s.heap.size)) (F0 m 101 ls []) := by
    intro n
    induction n with
    | zero =>
      intro  x0 x1 x2 x3 x4 M H locs ls h
      exact False.elim h
    | succ n ih =>
      intro  x0 x1 x2 x3 x4 M H locs ls h hl hR hS
      refine lv_iload hx hb dX4_raise_101 (lv_at hl 4 rfl) ?_
      refine lv_bipush (v := (16 : Int32)) hx hb dX4_raise_103 (by decide) ?_
      obtain ⟨ha, hb2⟩ := h
      refine lv_icmp_ge (tgt := 154) hx hb dX4_raise_105 (by decide) (fun hc => ?_) (fun hc => ?_)
      · replace h := ha hc
        exact k_retv hx hb hr hlocks hR hS h dX4_raise_154
      · replace h := hb2 hc
        refine lv_aload_n hx hb dX4_raise_108 rfl (lv_at hl 0 rfl) ?_
        refine lv_iload_n hx hb dX4_raise_109 rfl (lv_at hl 1 rfl) ?_
        refine lv_iconst (v := (1 : Int32)) hx hb dX4_raise_110 (by decide) ?_
        refine lv_iadd hx hb dX4_raise_111 ?_
        refine lv_iload hx hb dX4_raise_112 (lv_at hl 4 rfl) ?_
        refine lv_iadd hx hb dX4_raise_114 ?_
        refine lv_aload_n hx hb dX4_raise_115 rfl (lv_at hl 0 rfl) ?_
        refine lv_iload_n hx hb dX4_raise_116 rfl (lv_at hl 1 rfl) ?_
        refine lv_iload hx hb dX4_raise_117 (lv_at hl 4 rfl) ?_
        refine k_calli0 (va_runS (As := [.ref x0, .int x1, .int x4]) (rest := [.int ((x1 + (1 : Int32)) + x4), .ref x0]) ⟨hx, hb, hml, hown, hts⟩ (c_X4_isOwn l G _ _ _ x0 x1 x4 h) (va_cwS 3 hts gX4_raise_X4_isOwn rfl rfl rfl (by decide +kernel) ⟨Nat.le_of_ble_eq_true rfl, Nat.le_of_ble_eq_true rfl⟩) (k_preS hR hS hA hE) rfl rfl hl.1 rfl (lv_room (Nat.le_of_ble_eq_true rfl)) dX4_raise_119 ⟨Nat.zero_le _, Nat.zero_le _⟩) hR hS hA (fun r4 M5 H locs h hR hS => ?_)
        obtain ⟨ha, hb2⟩ := h
        refine lv_if_eq (tgt := 139) hx hb dX4_raise_122 (by decide) (fun hc => ?_) (fun hc => ?_)
        · replace h := ha hc
          refine lv_aload_n hx hb dX4_raise_139 rfl (lv_at hl 0 rfl) ?_
          refine lv_iload_n hx hb dX4_raise_140 rfl (lv_at hl 1 rfl) ?_
          refine lv_iconst (v := (1 : Int32)) hx hb dX4_raise_141 (by decide) ?_
          refine lv_iadd hx hb dX4_raise_142 ?_
          refine lv_iload hx hb dX4_raise_143 (lv_at hl 4 rfl) ?_
          refine lv_iadd hx hb dX4_raise_145 ?_
          obtain ⟨n7, f8, hm9, hv10, h⟩ := h
          refine k_iald hx hb hK hR hm9 hv10 dX4_raise_146 ?_
          exact b147 _ ih _ _ _ _ _ _ _ _ _ _ _ _ h (lv_sub hl [0, 1, 2, 3, 4] rfl) hR hS
        · replace h := hb2 hc
          refine lv_iload_n hx hb dX4_raise_125 rfl (lv_at hl 3 rfl) ?_
          obtain ⟨ha, hb2⟩ := h
          refine lv_if_eq (tgt := 133) hx hb dX4_raise_126 (by decide) (fun hc => ?_) (fun hc => ?_)
          · replace h := ha hc
            refine lv_iload_n hx hb dX4_raise_133 rfl (lv_at hl 2 rfl) ?_
            refine lv_iconst (v := (1 : Int32)) hx hb dX4_raise_134 (by decide) ?_
            refine lv_iadd hx hb dX4_raise_135 ?_
            refine lv_goto (tgt := 147) hx hb dX4_raise_136 (by decide) ?_
            exact b147 _ ih _ _ _ _ _ _ _ _ _ _ _ _ h (lv_sub hl [0, 1, 2, 3, 4] rfl) hR hS
          · replace h := hb2 hc
            refine lv_iload_n hx hb dX4_raise_129 rfl (lv_at hl 2 rfl) ?_
            refine lv_goto (tgt := 147) hx hb dX4_raise_130 (by decide) ?_
            exact b147 _ ih _ _ _ _ _ _ _ _ _ _ _ _ h (lv_sub hl [0, 1, 2, 3, 4] rfl) hR hS
  have L53 : ∀ (n : Nat), ∀ (x0 : Nat) (x1 : Int32) (x2 : Int32) (x3 : Int32) (x4 : Int32) (M : k_M) (H : Heap) (locs : List Loc) (ls : Array Slot), wp_X4_raise_L53 G post n x0 x1 x2 x3 x4 M → lv_has ls 5 [(0, .ref x0), (1, .int x1), (2, .int x2), (3, .int x3), (4, .int x4)] → kR G M (kA M0 s.heap.size) H → va_S (kA M0 s.heap.size) s.heap H locs → W p l e (headSpec wsX4_raise ({ frames := 1, cells := 0, slots := 0, locals := 22 })).room s m ([.ref p0, .int p1] : List Value).toArray below meth c H locs 0 0 (MQ below (va_Qv post (kB G M0 s.heap.size) (kA M0 s.heap.size)) ([.ref p0, .int p1] : List Value).toArray s 0 0 (kA M0 s.heap.size)) (F0 m 53 ls []) := by
    intro n
    induction n with
    | zero =>
      intro  x0 x1 x2 x3 x4 M H locs ls h
      exact False.elim h
    | succ n ih =>
      intro  x0 x1 x2 x3 x4 M H locs ls h hl hR hS
      refine lv_iload hx hb dX4_raise_53 (lv_at hl 4 rfl) ?_
      refine lv_bipush (v := (16 : Int32)) hx hb dX4_raise_55 (by decide) ?_
      obtain ⟨ha, hb2⟩ := h
      refine lv_icmp_ge (tgt := 98) hx hb dX4_raise_57 (by decide) (fun hc => ?_) (fun hc => ?_)
      · replace h := ha hc
        refine lv_iconst (v := (0 : Int32)) hx hb dX4_raise_98 (by decide) ?_
        refine lv_istore (lv' := [(4, .int (0 : Int32)), (0, .ref x0), (1, .int x1), (2, .int x2), (3, .int x3)]) hx hb dX4_raise_99 hl (by decide) rfl (fun ls hl => ?_)
        obtain ⟨k3, h⟩ := h
        exact L101 k3 _ _ _ _ _ _ _ _ _ h (lv_sub hl [1, 2, 3, 4, 0] rfl) hR hS
      · replace h := hb2 hc
        refine lv_iload_n hx hb dX4_raise_60 rfl (lv_at hl 3 rfl) ?_
        obtain ⟨ha, hb2⟩ := h
        refine lv_if_ne (tgt := 86) hx hb dX4_raise_61 (by decide) (fun hc => ?_) (fun hc => ?_)
        · replace h := ha hc
          refine lv_iconst (v := (1 : Int32)) hx hb dX4_raise_86 (by decide) ?_
          refine lv_goto (tgt := 91) hx hb dX4_raise_87 (by decide) ?_
          refine lv_istore_n (lv' := [(3, .int (1 : Int32)), (0, .ref x0), (1, .int x1), (2, .int x2), (4, .int x4)]) hx hb dX4_raise_91 rfl hl (by decide) rfl (fun ls hl => ?_)
          refine lv_iinc (v := (x4 + (1 : Int32))) (lv' := [(4, .int (x4 + (1 : Int32))), (3, .int (1 : Int32)), (0, .ref x0), (1, .int x1), (2, .int x2)]) hx hb dX4_raise_92 hl (k := 4) rfl rfl (by decide) rfl (fun ls hl => ?_)
          refine lv_goto (tgt := 53) hx hb dX4_raise_95 (by decide) ?_
          exact ih _ _ _ _ _ _ _ _ _ h (lv_sub hl [2, 3, 4, 1, 0] rfl) hR hS
        · replace h := hb2 hc
          refine lv_aload_n hx hb dX4_raise_64 rfl (lv_at hl 0 rfl) ?_
          refine lv_iload_n hx hb dX4_raise_65 rfl (lv_at hl 1 rfl) ?_
          refine lv_iload hx hb dX4_raise_66 (lv_at hl 4 rfl) ?_
          refine k_calli0 (va_runS (As := [.ref x0, .int x1, .int x4]) (rest := []) ⟨hx, hb, hml, hown, hts⟩ (c_X4_isOwn l G _ _ _ x0 x1 x4 h) (va_cwS 3 hts gX4_raise_X4_isOwn rfl rfl rfl (by decide +kernel) ⟨Nat.le_of_ble_eq_true rfl, Nat.le_of_ble_eq_true rfl⟩) (k_preS hR hS hA hE) rfl rfl hl.1 rfl (lv_room (Nat.le_of_ble_eq_true rfl)) dX4_raise_68 ⟨Nat.zero_le _, Nat.zero_le _⟩) hR hS hA (fun r16 M17 H locs h hR hS => ?_)
          obtain ⟨ha, hb2⟩ := h
          refine lv_if_eq (tgt := 90) hx hb dX4_raise_71 (by decide) (fun hc => ?_) (fun hc => ?_)
          · replace h := ha hc
            refine lv_iconst (v := (0 : Int32)) hx hb dX4_raise_90 (by decide) ?_
            refine lv_istore_n (lv' := [(3, .int (0 : Int32)), (0, .ref x0), (1, .int x1), (2, .int x2), (4, .int x4)]) hx hb dX4_raise_91 rfl hl (by decide) rfl (fun ls hl => ?_)
            refine lv_iinc (v := (x4 + (1 : Int32))) (lv' := [(4, .int (x4 + (1 : Int32))), (3, .int (0 : Int32)), (0, .ref x0), (1, .int x1), (2, .int x2)]) hx hb dX4_raise_92 hl (k := 4) rfl rfl (by decide) rfl (fun ls hl => ?_)
            refine lv_goto (tgt := 53) hx hb dX4_raise_95 (by decide) ?_
            exact ih _ _ _ _ _ _ _ _ _ h (lv_sub hl [2, 3, 4, 1, 0] rfl) hR hS
          · replace h := hb2 hc
            refine lv_aload_n hx hb dX4_raise_74 rfl (lv_at hl 0 rfl) ?_
            refine lv_iload_n hx hb dX4_raise_75 rfl (lv_at hl 1 rfl) ?_
            refine lv_iconst (v := (1 : Int32)) hx hb dX4_raise_76 (by decide) ?_
            refine lv_iadd hx hb dX4_raise_77 ?_
            refine lv_iload hx hb dX4_raise_78 (lv_at hl 4 rfl) ?_
            refine lv_iadd hx hb dX4_raise_80 ?_
            obtain ⟨n19, f20, hm21, hv22, h⟩ := h
            refine k_iald hx hb hK hR hm21 hv22 dX4_raise_81 ?_
            refine lv_iload_n hx hb dX4_raise_82 rfl (lv_at hl 2 rfl) ?_
            obtain ⟨ha, hb2⟩ := h
            refine lv_icmp_ge (tgt := 90) hx hb dX4_raise_83 (by decide) (fun hc => ?_) (fun hc => ?_)
            · replace h := ha hc
              refine lv_iconst (v := (0 : Int32)) hx hb dX4_raise_90 (by decide) ?_
              refine lv_istore_n (lv' := [(3, .int (0 : Int32)), (0, .ref x0), (1, .int x1), (2, .int x2), (4, .int x4)]) hx hb dX4_raise_91 rfl hl (by decide) rfl (fun ls hl => ?_)
              refine lv_iinc (v := (x4 + (1 : Int32))) (lv' := [(4, .int (x4 + (1 : Int32))), (3, .int (0 : Int32)), (0, .ref x0), (1, .int x1), (2, .int x2)]) hx hb dX4_raise_92 hl (k := 4) rfl rfl (by decide) rfl (fun ls hl => ?_)
              refine lv_goto (tgt := 53) hx hb dX4_raise_95 (by decide) ?_
              exact ih _ _ _ _ _ _ _ _ _ h (lv_sub hl [2, 3, 4, 1, 0] rfl) hR hS
            · replace h := hb2 hc
              refine lv_iconst (v := (1 : Int32)) hx hb dX4_raise_86 (by decide) ?_
              refine lv_goto (tgt := 91) hx hb dX4_raise_87 (by decide) ?_
              refine lv_istore_n (lv' := [(3, .int (1 : Int32)), (0, .ref x0), (1, .int x1), (2, .int x2), (4, .int x4)]) hx hb dX4_raise_91 rfl hl (by decide) rfl (fun ls hl => ?_)
              refine lv_iinc (v := (x4 + (1 : Int32))) (lv' := [(4, .int (x4 + (1 : Int32))), (3, .int (1 : Int32)), (0, .ref x0), (1, .int x1), (2, .int x2)]) hx hb dX4_raise_92 hl (k := 4) rfl rfl (by decide) rfl (fun ls hl => ?_)
              refine lv_goto (tgt := 53) hx hb dX4_raise_95 (by decide) ?_
              exact ih _ _ _ _ _ _ _ _ _ h (lv_sub hl [2, 3, 4, 1, 0] rfl) hR hS
  have L4 : ∀ (n : Nat), ∀ (x0 : Nat) (x1 : Int32) (x2 : Int32) (x3 : Int32) (M : k_M) (H : Heap) (locs : List Loc) (ls : Array Slot), wp_X4_raise_L4 G post n x0 x1 x2 x3 M → lv_has ls 5 [(0, .ref x0), (1, .int x1), (2, .int x2), (3, .int x3)] → kR G M (kA M0 s.heap.size) H → va_S (kA M0 s.heap.size) s.heap H locs → W p l e (headSpec wsX4_raise ({ frames := 1, cells := 0, slots := 0, locals := 22 })).room s m ([.ref p0, .int p1] : List Value).toArray below meth c H locs 0 0 (MQ below (va_Qv post (kB G M0 s.heap.size) (kA M0 s.heap.size)) ([.ref p0, .int p1] : List Value).toArray s 0 0 (kA M0 s.heap.size)) (F0 m 4 ls []) := by
    intro n
    induction n with
    | zero =>
      intro  x0 x1 x2 x3 M H locs ls h
      exact False.elim h
    | succ n ih =>
      intro  x0 x1 x2 x3 M H locs ls h hl hR hS
      refine lv_iload_n hx hb dX4_raise_4 rfl (lv_at hl 3 rfl) ?_
      refine lv_bipush (v := (16 : Int32)) hx hb dX4_raise_5 (by decide) ?_
      obtain ⟨ha, hb2⟩ := h
      refine lv_icmp_ge (tgt := 48) hx hb dX4_raise_7 (by decide) (fun hc => ?_) (fun hc => ?_)
      · replace h := ha hc
        refine lv_iconst (v := (0 : Int32)) hx hb dX4_raise_48 (by decide) ?_
        refine lv_istore_n (lv' := [(3, .int (0 : Int32)), (0, .ref x0), (1, .int x1), (2, .int x2)]) hx hb dX4_raise_49 rfl hl (by decide) rfl (fun ls hl => ?_)
        refine lv_iconst (v := (0 : Int32)) hx hb dX4_raise_50 (by decide) ?_
        refine lv_istore (lv' := [(4, .int (0 : Int32)), (3, .int (0 : Int32)), (0, .ref x0), (1, .int x1), (2, .int x2)]) hx hb dX4_raise_51 hl (by decide) rfl (fun ls hl => ?_)
        obtain ⟨k2, h⟩ := h
        exact L53 k2 _ _ _ _ _ _ _ _ _ h (lv_sub hl [2, 3, 4, 1, 0] rfl) hR hS
      · replace h := hb2 hc
        refine lv_aload_n hx hb dX4_raise_10 rfl (lv_at hl 0 rfl) ?_
        refine lv_iload_n hx hb dX4_raise_11 rfl (lv_at hl 1 rfl) ?_
        refine lv_iload_n hx hb dX4_raise_12 rfl (lv_at hl 3 rfl) ?_
        refine k_calli0 (va_runS (As := [.ref x0, .int x1, .int x3]) (rest := []) ⟨hx, hb, hml, hown, hts⟩ (c_X4_isOwn l G _ _ _ x0 x1 x3 h) (va_cwS 3 hts gX4_raise_X4_isOwn rfl rfl rfl (by decide +kernel) ⟨Nat.le_of_ble_eq_true rfl, Nat.le_of_ble_eq_true rfl⟩) (k_preS hR hS hA hE) rfl rfl hl.1 rfl (lv_room (Nat.le_of_ble_eq_true rfl)) dX4_raise_13 ⟨Nat.zero_le _, Nat.zero_le _⟩) hR hS hA (fun r23 M24 H locs h hR hS => ?_)
        obtain ⟨ha, hb2⟩ := h
        refine lv_if_eq (tgt := 40) hx hb dX4_raise_16 (by decide) (fun hc => ?_) (fun hc => ?_)
        · replace h := ha hc
          refine lv_iload_n hx hb dX4_raise_40 rfl (lv_at hl 2 rfl) ?_
          refine lv_istore_n (lv' := [(2, .int x2), (0, .ref x0), (1, .int x1), (3, .int x3)]) hx hb dX4_raise_41 rfl hl (by decide) rfl (fun ls hl => ?_)
          refine lv_iinc (v := (x3 + (1 : Int32))) (lv' := [(3, .int (x3 + (1 : Int32))), (2, .int x2), (0, .ref x0), (1, .int x1)]) hx hb dX4_raise_42 hl (k := 3) rfl rfl (by decide) rfl (fun ls hl => ?_)
          refine lv_goto (tgt := 4) hx hb dX4_raise_45 (by decide) ?_
          exact ih _ _ _ _ _ _ _ _ h (lv_sub hl [2, 3, 1, 0] rfl) hR hS
        · replace h := hb2 hc
          refine lv_aload_n hx hb dX4_raise_19 rfl (lv_at hl 0 rfl) ?_
          refine lv_iload_n hx hb dX4_raise_20 rfl (lv_at hl 1 rfl) ?_
          refine lv_iconst (v := (1 : Int32)) hx hb dX4_raise_21 (by decide) ?_
          refine lv_iadd hx hb dX4_raise_22 ?_
          refine lv_iload_n hx hb dX4_raise_23 rfl (lv_at hl 3 rfl) ?_
          refine lv_iadd hx hb dX4_raise_24 ?_
          obtain ⟨n26, f27, hm28, hv29, h⟩ := h
          refine k_iald hx hb hK hR hm28 hv29 dX4_raise_25 ?_
          refine lv_iload_n hx hb dX4_raise_26 rfl (lv_at hl 2 rfl) ?_
          obtain ⟨ha, hb2⟩ := h
          refine lv_icmp_le (tgt := 40) hx hb dX4_raise_27 (by decide) (fun hc => ?_) (fun hc => ?_)
          · replace h := ha hc
            refine lv_iload_n hx hb dX4_raise_40 rfl (lv_at hl 2 rfl) ?_
            refine lv_istore_n (lv' := [(2, .int x2), (0, .ref x0), (1, .int x1), (3, .int x3)]) hx hb dX4_raise_41 rfl hl (by decide) rfl (fun ls hl => ?_)
            refine lv_iinc (v := (x3 + (1 : Int32))) (lv' := [(3, .int (x3 + (1 : Int32))), (2, .int x2), (0, .ref x0), (1, .int x1)]) hx hb dX4_raise_42 hl (k := 3) rfl rfl (by decide) rfl (fun ls hl => ?_)
            refine lv_goto (tgt := 4) hx hb dX4_raise_45 (by decide) ?_
            exact ih _ _ _ _ _ _ _ _ h (lv_sub hl [2, 3, 1, 0] rfl) hR hS
          · replace h := hb2 hc
            refine lv_aload_n hx hb dX4_raise_30 rfl (lv_at hl 0 rfl) ?_
            refine lv_iload_n hx hb dX4_raise_31 rfl (lv_at hl 1 rfl) ?_
            refine lv_iconst (v := (1 : Int32)) hx hb dX4_raise_32 (by decide) ?_
            refine lv_iadd hx hb dX4_raise_33 ?_
            refine lv_iload_n hx hb dX4_raise_34 rfl (lv_at hl 3 rfl) ?_
            refine lv_iadd hx hb dX4_raise_35 ?_
            obtain ⟨n30, f31, hm32, hv33, h⟩ := h
            refine k_iald hx hb hK hR hm32 hv33 dX4_raise_36 ?_
            refine lv_goto (tgt := 41) hx hb dX4_raise_37 (by decide) ?_
            refine lv_topi (fun y34 ey34 => ?_)
            replace h := h y34 ey34
            refine lv_istore_n (lv' := [(2, .int y34), (0, .ref x0), (1, .int x1), (3, .int x3)]) hx hb dX4_raise_41 rfl hl (by decide) rfl (fun ls hl => ?_)
            refine lv_iinc (v := (x3 + (1 : Int32))) (lv' := [(3, .int (x3 + (1 : Int32))), (2, .int y34), (0, .ref x0), (1, .int x1)]) hx hb dX4_raise_42 hl (k := 3) rfl rfl (by decide) rfl (fun ls hl => ?_)
            refine lv_goto (tgt := 4) hx hb dX4_raise_45 (by decide) ?_
            exact ih _ _ _ _ _ _ _ _ h (lv_sub hl [2, 3, 1, 0] rfl) hR hS
  have hl := lv_entry ([.ref p0, .int p1]) (n := 5) (Nat.le_of_ble_eq_true rfl)
  rw [lg_entry_eq]
  generalize (lg_sl ([.ref p0, .int p1]) ++ List.replicate (5 - (lg_sl ([.ref p0, .int p1])).length) Slot.unset).toArray = ls at hl ⊢
  have hl : lv_has ls 5 [(0, .ref p0), (1, .int p1)] := hl
  have hR0 := hR
  refine lv_iconst (v := (0 : Int32)) hx hb dX4_raise_0 (by decide) ?_
  refine lv_istore_n (lv' := [(2, .int (0 : Int32)), (0, .ref p0), (1, .int p1)]) hx hb dX4_raise_1 rfl hl (by decide) rfl (fun ls hl => ?_)
  refine lv_iconst (v := (0 : Int32)) hx hb dX4_raise_2 (by decide) ?_
  refine lv_istore_n (lv' := [(3, .int (0 : Int32)), (2, .int (0 : Int32)), (0, .ref p0), (1, .int p1)]) hx hb dX4_raise_3 rfl hl (by decide) rfl (fun ls hl => ?_)
  obtain ⟨k1, h⟩ := h
  exact L4 k1 _ _ _ _ _ _ _ _ h (lv_sub hl [2, 3, 1, 0] rfl) hR hS

def wp_X4_areAlike_L6 (G : k_G) (post : Int32 → k_M → Prop) : Nat → Nat → Int32 → Int32 → Int32 → Int32 → Int32 → k_M → Prop
  | 0 => fun _ _ _ _ _ _ _ => False
  | n + 1 => fun x0 x1 x2 x3 x4 x5 M =>
  (((x2 + x3) ≤ x5 →
      (narrow .boolean (.int x4) = .int x4 ∧ post x4 M)) ∧
      (¬ (x2 + x3) ≤ x5 →
      ((x4 = 0 →
        (wp_X4_areAlike_L6 G post n) x0 x1 x2 x3 (0 : Int32) (x5 + (1 : Int32)) M) ∧
        (¬ x4 = 0 →
        (∃ n3 f4, M x0 = some (kI G n3 f4) ∧ vp_in ((x1 + (1 : Int32)) + x5) n3 ∧
          (∃ n7 f8, M x0 = some (kI G n7 f8) ∧ vp_in ((x1 + (1 : Int32)) + x2) n7 ∧
          ((¬ (f4 (((x1 + (1 : Int32)) + x5)).toNatClampNeg) = (f8 (((x1 + (1 : Int32)) + x2)).toNatClampNeg) →
          (wp_X4_areAlike_L6 G post n) x0 x1 x2 x3 (0 : Int32) (x5 + (1 : Int32)) M) ∧
          ((f4 (((x1 + (1 : Int32)) + x5)).toNatClampNeg) = (f8 (((x1 + (1 : Int32)) + x2)).toNatClampNeg) →
          (wp_X4_areAlike_L6 G post n) x0 x1 x2 x3 (1 : Int32) (x5 + (1 : Int32)) M))))))))
def wp_X4_areAlike (G : k_G) (post : Int32 → k_M → Prop) (p0 : Nat) (p1 : Int32) (p2 : Int32) (p3 : Int32) (M0 : k_M) : Prop :=
  ∃ k1, wp_X4_areAlike_L6 G post k1 p0 p1 p2 p3 (1 : Int32) p2 M0
set_option maxHeartbeats 4000000 in
set_option maxRecDepth 100000 in
theorem c_X4_areAlike (l : Launch) (G : k_G) (M0 : k_M) (sz : Nat) (post : Int32 → k_M → Prop) (p0 : Nat) (p1 : Int32) (p2 : Int32) (p3 : Int32) (h : wp_X4_areAlike G post p0 p1 p2 p3 M0) : Met l yX4_areAlike wsX4_areAlike ({ frames := 0, cells := 0, slots := 0, locals := 0 }) (va_Pc [.ref p0, .int p1, .int p2, .int p3] (kPre G M0 sz)) (va_Qi post (kB G M0 sz) (kA M0 sz)) 0 0 (kA M0 sz) := by
  refine Met.ofW (cc := cX4_areAlike) (maxL := 6) (ret := (some .boolean)) (by decide) rfl ?_
  intro p e s m args below meth c s₁ B hml hv
  obtain ⟨rfl, hsz, hR, hE⟩ := hv
  have hx := B.exec
  have hb := B.bytes
  have hr := B.returns
  have hts := atoms_spec (ws := wsX4_areAlike) B.pre
  have hown : s.vm.findClass RX4 = some m.cls := findClass_of_methodNamed B.named
  have hlocks := B.notSynchronized
  subst hsz
  have hK := hE.1
  have hA : ∀ q, s.heap.size ≤ q → kA M0 s.heap.size q := kA.new
  have hS : va_S (kA M0 s.heap.size) s.heap s.heap [] := va_S.rf
  have L6 : ∀ (n : Nat), ∀ (x0 : Nat) (x1 : Int32) (x2 : Int32) (x3 : Int32) (x4 : Int32) (x5 : Int32) (M : k_M) (H : Heap) (locs : List Loc) (ls : Array Slot), wp_X4_areAlike_L6 G post n x0 x1 x2 x3 x4 x5 M → lv_has ls 6 [(0, .ref x0), (1, .int x1), (2, .int x2), (3, .int x3), (4, .int x4), (5, .int x5)] → kR G M (kA M0 s.heap.size) H → va_S (kA M0 s.heap.size) s.heap H locs → W p l e (headSpec wsX4_areAlike ({ frames := 0, cells := 0, slots := 0, locals := 0 })).room s m ([.ref p0, .int p1, .int p2, .int p3] : List Value).toArray below meth c H locs 0 0 (MQ below (va_Qi post (kB G M0 s.heap.size) (kA M0 s.heap.size)) ([.ref p0, .int p1, .int p2, .int p3] : List Value).toArray s 0 0 (kA M0 s.heap.size)) (F0 m 6 ls []) := by
    intro n
    induction n with
    | zero =>
      intro  x0 x1 x2 x3 x4 x5 M H locs ls h
      exact False.elim h
    | succ n ih =>
      intro  x0 x1 x2 x3 x4 x5 M H locs ls h hl hR hS
      refine lv_iload hx hb dX4_areAlike_6 (lv_at hl 5 rfl) ?_
      refine lv_iload_n hx hb dX4_areAlike_8 rfl (lv_at hl 2 rfl) ?_
      refine lv_iload_n hx hb dX4_areAlike_9 rfl (lv_at hl 3 rfl) ?_
      refine lv_iadd hx hb dX4_areAlike_10 ?_
      obtain ⟨ha, hb2⟩ := h
      refine lv_icmp_ge (tgt := 50) hx hb dX4_areAlike_11 (by decide) (fun hc => ?_) (fun hc => ?_)
      · replace h := ha hc
        refine lv_iload hx hb dX4_areAlike_50 (lv_at hl 4 rfl) ?_
        obtain ⟨hn2, h⟩ := h
        exact k_reti hx hb hr hlocks hn2 hR hS h dX4_areAlike_52
      · replace h := hb2 hc
        refine lv_iload hx hb dX4_areAlike_14 (lv_at hl 4 rfl) ?_
        obtain ⟨ha, hb2⟩ := h
        refine lv_if_eq (tgt := 41) hx hb dX4_areAlike_16 (by decide) (fun hc => ?_) (fun hc => ?_)
        · replace h := ha hc
          refine lv_iconst (v := (0 : Int32)) hx hb dX4_areAlike_41 (by decide) ?_
          refine lv_istore (lv' := [(4, .int (0 : Int32)), (0, .ref x0), (1, .int x1), (2, .int x2), (3, .int x3), (5, .int x5)]) hx hb dX4_areAlike_42 hl (by decide) rfl (fun ls hl => ?_)
          refine lv_iinc (v := (x5 + (1 : Int32))) (lv' := [(5, .int (x5 + (1 : Int32))), (4, .int (0 : Int32)), (0, .ref x0), (1, .int x1), (2, .int x2), (3, .int x3)]) hx hb dX4_areAlike_44 hl (k := 5) rfl rfl (by decide) rfl (fun ls hl => ?_)
          refine lv_goto (tgt := 6) hx hb dX4_areAlike_47 (by decide) ?_
          exact ih _ _ _ _ _ _ _ _ _ _ h (lv_sub hl [2, 3, 4, 5, 1, 0] rfl) hR hS
        · replace h := hb2 hc
          refine lv_aload_n hx hb dX4_areAlike_19 rfl (lv_at hl 0 rfl) ?_
          refine lv_iload_n hx hb dX4_areAlike_20 rfl (lv_at hl 1 rfl) ?_
          refine lv_iconst (v := (1 : Int32)) hx hb dX4_areAlike_21 (by decide) ?_
          refine lv_iadd hx hb dX4_areAlike_22 ?_
          refine lv_iload hx hb dX4_areAlike_23 (lv_at hl 5 rfl) ?_
          refine lv_iadd hx hb dX4_areAlike_25 ?_
          obtain ⟨n3, f4, hm5, hv6, h⟩ := h
          refine k_iald hx hb hK hR hm5 hv6 dX4_areAlike_26 ?_
          refine lv_aload_n hx hb dX4_areAlike_27 rfl (lv_at hl 0 rfl) ?_
          refine lv_iload_n hx hb dX4_areAlike_28 rfl (lv_at hl 1 rfl) ?_
          refine lv_iconst (v := (1 : Int32)) hx hb dX4_areAlike_29 (by decide) ?_
          refine lv_iadd hx hb dX4_areAlike_30 ?_
          refine lv_iload_n hx hb dX4_areAlike_31 rfl (lv_at hl 2 rfl) ?_
          refine lv_iadd hx hb dX4_areAlike_32 ?_
          obtain ⟨n7, f8, hm9, hv10, h⟩ := h
          refine k_iald hx hb hK hR hm9 hv10 dX4_areAlike_33 ?_
          obtain ⟨ha, hb2⟩ := h
          refine lv_icmp_ne (tgt := 41) hx hb dX4_areAlike_34 (by decide) (fun hc => ?_) (fun hc => ?_)
          · replace h := ha hc
            refine lv_iconst (v := (0 : Int32)) hx hb dX4_areAlike_41 (by decide) ?_
            refine lv_istore (lv' := [(4, .int (0 : Int32)), (0, .ref x0), (1, .int x1), (2, .int x2), (3, .int x3), (5, .int x5)]) hx hb dX4_areAlike_42 hl (by decide) rfl (fun ls hl => ?_)
            refine lv_iinc (v := (x5 + (1 : Int32))) (lv' := [(5, .int (x5 + (1 : Int32))), (4, .int (0 : Int32)), (0, .ref x0), (1, .int x1), (2, .int x2), (3, .int x3)]) hx hb dX4_areAlike_44 hl (k := 5) rfl rfl (by decide) rfl (fun ls hl => ?_)
            refine lv_goto (tgt := 6) hx hb dX4_areAlike_47 (by decide) ?_
            exact ih _ _ _ _ _ _ _ _ _ _ h (lv_sub hl [2, 3, 4, 5, 1, 0] rfl) hR hS
          · replace h := hb2 hc
            refine lv_iconst (v := (1 : Int32)) hx hb dX4_areAlike_37 (by decide) ?_
            refine lv_goto (tgt := 42) hx hb dX4_areAlike_38 (by decide) ?_
            refine lv_istore (lv' := [(4, .int (1 : Int32)), (0, .ref x0), (1, .int x1), (2, .int x2), (3, .int x3), (5, .int x5)]) hx hb dX4_areAlike_42 hl (by decide) rfl (fun ls hl => ?_)
            refine lv_iinc (v := (x5 + (1 : Int32))) (lv' := [(5, .int (x5 + (1 : Int32))), (4, .int (1 : Int32)), (0, .ref x0), (1, .int x1), (2, .int x2), (3, .int x3)]) hx hb dX4_areAlike_44 hl (k := 5) rfl rfl (by decide) rfl (fun ls hl => ?_)
            refine lv_goto (tgt := 6) hx hb dX4_areAlike_47 (by decide) ?_
            exact ih _ _ _ _ _ _ _ _ _ _ h (lv_sub hl [2, 3, 4, 5, 1, 0] rfl) hR hS
  have hl := lv_entry ([.ref p0, .int p1, .int p2, .int p3]) (n := 6) (Nat.le_of_ble_eq_true rfl)
  rw [lg_entry_eq]
  generalize (lg_sl ([.ref p0, .int p1, .int p2, .int p3]) ++ List.replicate (6 - (lg_sl ([.ref p0, .int p1, .int p2, .int p3])).length) Slot.unset).toArray = ls at hl ⊢
  have hl : lv_has ls 6 [(0, .ref p0), (1, .int p1), (2, .int p2), (3, .int p3)] := hl
  have hR0 := hR
  refine lv_iconst (v := (1 : Int32)) hx hb dX4_areAlike_0 (by decide) ?_
  refine lv_istore (lv' := [(4, .int (1 : Int32)), (0, .ref p0), (1, .int p1), (2, .int p2), (3, .int p3)]) hx hb dX4_areAlike_1 hl (by decide) rfl (fun ls hl => ?_)
  refine lv_iload_n hx hb dX4_areAlike_3 rfl (lv_at hl 3 rfl) ?_
  refine lv_istore (lv' := [(5, .int p2), (4, .int (1 : Int32)), (0, .ref p0), (1, .int p1), (2, .int p2), (3, .int p3)]) hx hb dX4_areAlike_4 hl (by decide) rfl (fun ls hl => ?_)
  obtain ⟨k1, h⟩ := h
  exact L6 k1 _ _ _ _ _ _ _ _ _ _ h (lv_sub hl [2, 3, 4, 5, 1, 0] rfl) hR hS

def wp_X4_knots_L13 (G : k_G) (post : Int32 → k_M → Prop) (K4 : Nat → Int32 → Int32 → Int32 → k_M → Prop) : Nat → Nat → Int32 → Int32 → Int32 → Int32 → k_M → Prop
  | 0 => fun _ _ _ _ _ _ => False
  | n + 1 => fun x0 x1 x2 x3 x4 M =>
  (((16 : Int32) ≤ x4 →
      K4 x0 x1 x2 (x3 * (2 : Int32)) M) ∧
      (¬ (16 : Int32) ≤ x4 →
      wp_X4_areAlike G (fun r3 M4 =>
        ((r3 = 0 →
        (wp_X4_knots_L13 G post K4 n) x0 x1 (x2 + (1 : Int32)) x3 (x4 + x3) M4) ∧
        (¬ r3 = 0 →
        (wp_X4_knots_L13 G post K4 n) x0 x1 (x2 + (0 : Int32)) x3 (x4 + x3) M4))) x0 x1 x4 x3 M))
def wp_X4_knots_L4 (G : k_G) (post : Int32 → k_M → Prop) : Nat → Nat → Int32 → Int32 → Int32 → k_M → Prop
  | 0 => fun _ _ _ _ _ => False
  | n + 1 => fun x0 x1 x2 x3 M =>
  (((16 : Int32) < x3 →
      post x2 M) ∧
      (¬ (16 : Int32) < x3 →
      ∃ k2, wp_X4_knots_L13 G post (wp_X4_knots_L4 G post n) k2 x0 x1 x2 x3 (0 : Int32) M))
def wp_X4_knots (G : k_G) (post : Int32 → k_M → Prop) (p0 : Nat) (p1 : Int32) (M0 : k_M) : Prop :=
  ∃ k1, wp_X4_knots_L4 G post k1 p0 p1 (0 : Int32) (2 : Int32) M0
set_option maxHeartbeats 4000000 in
set_option maxRecDepth 100000 in
theorem c_X4_knots (l : Launch) (G : k_G) (M0 : k_M) (sz : Nat) (post : Int32 → k_M → Prop) (p0 : Nat) (p1 : Int32) (h : wp_X4_knots G post p0 p1 M0) : Met l yX4_knots wsX4_knots ({ frames := 1, cells := 0, slots := 0, locals := 25 }) (va_Pc [.ref p0, .int p1] (kPre G M0 sz)) (va_Qi post (kB G M0 sz) (kA M0 sz)) 0 0 (kA M0 sz) := by
  refine Met.ofW (cc := cX4_knots) (maxL := 5) (ret := (some .int)) (by decide) rfl ?_
  intro p e s m args below meth c s₁ B hml hv
  obtain ⟨rfl, hsz, hR, hE⟩ := hv
  have hx := B.exec
  have hb := B.bytes
  have hr := B.returns
  have hts := atoms_spec (ws := wsX4_knots) B.pre
  have hown : s.vm.findClass RX4 = some m.cls := findClass_of_methodNamed B.named
  have hlocks := B.notSynchronized
  subst hsz
  have hK := hE.1
  have hA : ∀ q, s.heap.size ≤ q → kA M0 s.heap.size q := kA.new
  have hS : va_S (kA M0 s.heap.size) s.heap s.heap [] := va_S.rf
  have L13 : ∀ (K4 : Nat → Int32 → Int32 → Int32 → k_M → Prop) (hK4 : ∀ (x0 : Nat) (x1 : Int32) (x2 : Int32) (x3 : Int32) (M : k_M) (H : Heap) (locs : List Loc) (ls : Array Slot), K4 x0 x1 x2 x3 M → lv_has ls 5 [(0, .ref x0), (1, .int x1), (2, .int x2), (3, .int x3)] → kR G M (kA M0 s.heap.size) H → va_S (kA M0 s.heap.size) s.heap H locs → W p l e (headSpec wsX4_knots ({ frames := 1, cells := 0, slots := 0, locals := 25 })).room s m ([.ref p0, .int p1] : List Value).toArray below meth c H locs 0 0 (MQ below (va_Qi post (kB G M0 s.heap.size) (kA M0 s.heap.size)) ([.ref p0, .int p1] : List Value).toArray s 0 0 (kA M0 s.heap.size)) (F0 m 4 ls [])) (n : Nat), ∀ (x0 : Nat) (x1 : Int32) (x2 : Int32) (x3 : Int32) (x4 : Int32) (M : k_M) (H : Heap) (locs : List Loc) (ls : Array Slot), wp_X4_knots_L13 G post K4 n x0 x1 x2 x3 x4 M → lv_has ls 5 [(0, .ref x0), (1, .int x1), (2, .int x2), (3, .int x3), (4, .int x4)] → kR G M (kA M0 s.heap.size) H → va_S (kA M0 s.heap.size) s.heap H locs → W p l e (headSpec wsX4_knots ({ frames := 1, cells := 0, slots := 0, locals := 25 })).room s m ([.ref p0, .int p1] : List Value).toArray below meth c H locs 0 0 (MQ below (va_Qi post (kB G M0 s.heap.size) (kA M0 s.heap.size)) ([.ref p0, .int p1] : List Value).toArray s 0 0 (kA M0 s.heap.size)) (F0 m 13 ls []) := by
    intro K4 hK4 n
    induction n with
    | zero =>
      intro  x0 x1 x2 x3 x4 M H locs ls h
      exact False.elim h
    | succ n ih =>
      intro  x0 x1 x2 x3 x4 M H locs ls h hl hR hS
      refine lv_iload hx hb dX4_knots_13 (lv_at hl 4 rfl) ?_
      refine lv_bipush (v := (16 : Int32)) hx hb dX4_knots_15 (by decide) ?_
      obtain ⟨ha, hb2⟩ := h
      refine lv_icmp_ge (tgt := 48) hx hb dX4_knots_17 (by decide) (fun hc => ?_) (fun hc => ?_)
      · replace h := ha hc
        refine lv_iload_n hx hb dX4_knots_48 rfl (lv_at hl 3 rfl) ?_
        refine lv_iconst (v := (2 : Int32)) hx hb dX4_knots_49 (by decide) ?_
        refine lv_imul hx hb dX4_knots_50 ?_
        refine lv_istore_n (lv' := [(3, .int (x3 * (2 : Int32))), (0, .ref x0), (1, .int x1), (2, .int x2), (4, .int x4)]) hx hb dX4_knots_51 rfl hl (by decide) rfl (fun ls hl => ?_)
        refine lv_goto (tgt := 4) hx hb dX4_knots_52 (by decide) ?_
        exact hK4 _ _ _ _ _ _ _ _ h (lv_sub hl [1, 2, 3, 0] rfl) hR hS
      · replace h := hb2 hc
        refine lv_iload_n hx hb dX4_knots_20 rfl (lv_at hl 2 rfl) ?_
        refine lv_aload_n hx hb dX4_knots_21 rfl (lv_at hl 0 rfl) ?_
        refine lv_iload_n hx hb dX4_knots_22 rfl (lv_at hl 1 rfl) ?_
        refine lv_iload hx hb dX4_knots_23 (lv_at hl 4 rfl) ?_
        refine lv_iload_n hx hb dX4_knots_25 rfl (lv_at hl 3 rfl) ?_
        refine k_calli0 (va_runS (As := [.ref x0, .int x1, .int x4, .int x3]) (rest := [.int x2]) ⟨hx, hb, hml, hown, hts⟩ (c_X4_areAlike l G _ _ _ x0 x1 x4 x3 h) (va_cwS 4 hts gX4_knots_X4_areAlike rfl rfl rfl (by decide +kernel) ⟨Nat.le_of_ble_eq_true rfl, Nat.le_of_ble_eq_true rfl⟩) (k_preS hR hS hA hE) rfl rfl hl.1 rfl (lv_room (Nat.le_of_ble_eq_true rfl)) dX4_knots_26 ⟨Nat.zero_le _, Nat.zero_le _⟩) hR hS hA (fun r3 M4 H locs h hR hS => ?_)
        obtain ⟨ha, hb2⟩ := h
        refine lv_if_eq (tgt := 36) hx hb dX4_knots_29 (by decide) (fun hc => ?_) (fun hc => ?_)
        · replace h := ha hc
          refine lv_iconst (v := (1 : Int32)) hx hb dX4_knots_36 (by decide) ?_
          refine lv_iadd hx hb dX4_knots_37 ?_
          refine lv_istore_n (lv' := [(2, .int (x2 + (1 : Int32))), (0, .ref x0), (1, .int x1), (3, .int x3), (4, .int x4)]) hx hb dX4_knots_38 rfl hl (by decide) rfl (fun ls hl => ?_)
          refine lv_iload hx hb dX4_knots_39 (lv_at hl 4 rfl) ?_
          refine lv_iload_n hx hb dX4_knots_41 rfl (lv_at hl 3 rfl) ?_
          refine lv_iadd hx hb dX4_knots_42 ?_
          refine lv_istore (lv' := [(4, .int (x4 + x3)), (2, .int (x2 + (1 : Int32))), (0, .ref x0), (1, .int x1), (3, .int x3)]) hx hb dX4_knots_43 hl (by decide) rfl (fun ls hl => ?_)
          refine lv_goto (tgt := 13) hx hb dX4_knots_45 (by decide) ?_
          exact ih _ _ _ _ _ _ _ _ _ h (lv_sub hl [2, 3, 1, 4, 0] rfl) hR hS
        · replace h := hb2 hc
          refine lv_iconst (v := (0 : Int32)) hx hb dX4_knots_32 (by decide) ?_
          refine lv_goto (tgt := 37) hx hb dX4_knots_33 (by decide) ?_
          refine lv_iadd hx hb dX4_knots_37 ?_
          refine lv_istore_n (lv' := [(2, .int (x2 + (0 : Int32))), (0, .ref x0), (1, .int x1), (3, .int x3), (4, .int x4)]) hx hb dX4_knots_38 rfl hl (by decide) rfl (fun ls hl => ?_)
          refine lv_iload hx hb dX4_knots_39 (lv_at hl 4 rfl) ?_
          refine lv_iload_n hx hb dX4_knots_41 rfl (lv_at hl 3 rfl) ?_
          refine lv_iadd hx hb dX4_knots_42 ?_
          refine lv_istore (lv' := [(4, .int (x4 + x3)), (2, .int (x2 + (0 : Int32))), (0, .ref x0), (1, .int x1), (3, .int x3)]) hx hb dX4_knots_43 hl (by decide) rfl (fun ls hl => ?_)
          refine lv_goto (tgt := 13) hx hb dX4_knots_45 (by decide) ?_
          exact ih _ _ _ _ _ _ _ _ _ h (lv_sub hl [2, 3, 1, 4, 0] rfl) hR hS
  have L4 : ∀ (n : Nat), ∀ (x0 : Nat) (x1 : Int32) (x2 : Int32) (x3 : Int32) (M : k_M) (H : Heap) (locs : List Loc) (ls : Array Slot), wp_X4_knots_L4 G post n x0 x1 x2 x3 M → lv_has ls 5 [(0, .ref x0), (1, .int x1), (2, .int x2), (3, .int x3)] → kR G M (kA M0 s.heap.size) H → va_S (kA M0 s.heap.size) s.heap H locs → W p l e (headSpec wsX4_knots ({ frames := 1, cells := 0, slots := 0, locals := 25 })).room s m ([.ref p0, .int p1] : List Value).toArray below meth c H locs 0 0 (MQ below (va_Qi post (kB G M0 s.heap.size) (kA M0 s.heap.size)) ([.ref p0, .int p1] : List Value).toArray s 0 0 (kA M0 s.heap.size)) (F0 m 4 ls []) := by
    intro n
    induction n with
    | zero =>
      intro  x0 x1 x2 x3 M H locs ls h
      exact False.elim h
    | succ n ih =>
      intro  x0 x1 x2 x3 M H locs ls h hl hR hS
      refine lv_iload_n hx hb dX4_knots_4 rfl (lv_at hl 3 rfl) ?_
      refine lv_bipush (v := (16 : Int32)) hx hb dX4_knots_5 (by decide) ?_
      obtain ⟨ha, hb2⟩ := h
      refine lv_icmp_gt (tgt := 55) hx hb dX4_knots_7 (by decide) (fun hc => ?_) (fun hc => ?_)
      · replace h := ha hc
        refine lv_iload_n hx hb dX4_knots_55 rfl (lv_at hl 2 rfl) ?_
        exact k_reti hx hb hr hlocks rfl hR hS h dX4_knots_56
      · replace h := hb2 hc
        refine lv_iconst (v := (0 : Int32)) hx hb dX4_knots_10 (by decide) ?_
        refine lv_istore (lv' := [(4, .int (0 : Int32)), (0, .ref x0), (1, .int x1), (2, .int x2), (3, .int x3)]) hx hb dX4_knots_11 hl (by decide) rfl (fun ls hl => ?_)
        obtain ⟨k2, h⟩ := h
        exact L13 _ ih k2 _ _ _ _ _ _ _ _ _ h (lv_sub hl [1, 2, 3, 4, 0] rfl) hR hS
  have hl := lv_entry ([.ref p0, .int p1]) (n := 5) (Nat.le_of_ble_eq_true rfl)
  rw [lg_entry_eq]
  generalize (lg_sl ([.ref p0, .int p1]) ++ List.replicate (5 - (lg_sl ([.ref p0, .int p1])).length) Slot.unset).toArray = ls at hl ⊢
  have hl : lv_has ls 5 [(0, .ref p0), (1, .int p1)] := hl
  have hR0 := hR
  refine lv_iconst (v := (0 : Int32)) hx hb dX4_knots_0 (by decide) ?_
  refine lv_istore_n (lv' := [(2, .int (0 : Int32)), (0, .ref p0), (1, .int p1)]) hx hb dX4_knots_1 rfl hl (by decide) rfl (fun ls hl => ?_)
  refine lv_iconst (v := (2 : Int32)) hx hb dX4_knots_2 (by decide) ?_
  refine lv_istore_n (lv' := [(3, .int (2 : Int32)), (2, .int (0 : Int32)), (0, .ref p0), (1, .int p1)]) hx hb dX4_knots_3 rfl hl (by decide) rfl (fun ls hl => ?_)
  obtain ⟨k1, h⟩ := h
  exact L4 k1 _ _ _ _ _ _ _ _ h (lv_sub hl [2, 3, 1, 0] rfl) hR hS

def wp_X4_says (G : k_G) (post : k_M → Prop) (p0 : Nat) (p1 : Int32) (M0 : k_M) : Prop :=
  (∃ fs1 v2, M0 p0 = some (kO 5 fs1) ∧ fs1[11]? = some (.ref v2) ∧
  (∃ fs5 v6, M0 p0 = some (kO 5 fs5) ∧ fs5[12]? = some (.int v6) ∧
  (∃ n9 f10, M0 v2 = some (kI G n9 f10) ∧ vp_in v6 n9 ∧ ∀ M11 : k_M, M11 = va_up M0 v2 (some (kI G n9 (upd f10 (v6).toNatClampNeg p1))) →
  (∃ fs14 v15, M11 p0 = some (kO 5 fs14) ∧ fs14[12]? = some (.int v15) ∧
  (∃ fs18, M11 p0 = some (kO 5 fs18) ∧ 12 < fs18.length ∧ ∀ M19 : k_M, M19 = va_up M11 p0 (some (kO 5 (fs18.set 12 (.int (v15 + (1 : Int32)))))) →
  post M19)))))
theorem in_X4_says_X4 : ∀ w ∈ wsX40, w ∈ wsX4_says := by decide +kernel
set_option maxHeartbeats 4000000 in
set_option maxRecDepth 100000 in
theorem c_X4_says (l : Launch) (G : k_G) (M0 : k_M) (sz : Nat) (post : k_M → Prop) (p0 : Nat) (p1 : Int32) (h : wp_X4_says G post p0 p1 M0) : Met l yX4_says wsX4_says ({ frames := 0, cells := 0, slots := 0, locals := 0 }) (va_Pc [.ref p0, .int p1] (kPre G M0 sz)) (va_Qv post (kB G M0 sz) (kA M0 sz)) 0 0 (kA M0 sz) := by
  refine Met.ofW (cc := cX4_says) (maxL := 2) (ret := none) (by decide) rfl ?_
  intro p e s m args below meth c s₁ B hml hv
  obtain ⟨rfl, hsz, hR, hE⟩ := hv
  have hx := B.exec
  have hb := B.bytes
  have hr := B.returns
  have hts := atoms_spec (ws := wsX4_says) B.pre
  have hown : s.vm.findClass RX4 = some m.cls := findClass_of_methodNamed B.named
  have hlocks := B.notSynchronized
  subst hsz
  have hK := hE.1
  have hA : ∀ q, s.heap.size ≤ q → kA M0 s.heap.size q := kA.new
  have hS : va_S (kA M0 s.heap.size) s.heap s.heap [] := va_S.rf
  have hw1 := hts (.fieldLink RX4 37 "ForkedStampsModel" "text" "[I") (by decide +kernel)
  have hw2 := hts (.fieldLink RX4 78 "ForkedStampsModel" "textLength" "I") (by decide +kernel)
  have hl := lv_entry ([.ref p0, .int p1]) (n := 2) (Nat.le_of_ble_eq_true rfl)
  rw [lg_entry_eq]
  generalize (lg_sl ([.ref p0, .int p1]) ++ List.replicate (2 - (lg_sl ([.ref p0, .int p1])).length) Slot.unset).toArray = ls at hl ⊢
  have hl : lv_has ls 2 [(0, .ref p0), (1, .int p1)] := hl
  have hR0 := hR
  refine lv_aload_n hx hb dX4_says_0 rfl (lv_at hl 0 rfl) ?_
  obtain ⟨fs1, v2, hm3, hv4, h⟩ := h
  refine k_get (ci := 5) (C := RX4) (T := TX4) (N := 13) hx hb hts in_X4_says_X4 hown hK hR hm3 rfl 11 (by decide) hw1 (fun _ h9 => h9) hv4 dX4_says_1 ?_
  refine lv_aload_n hx hb dX4_says_4 rfl (lv_at hl 0 rfl) ?_
  obtain ⟨fs5, v6, hm7, hv8, h⟩ := h
  refine k_get (ci := 5) (C := RX4) (T := TX4) (N := 13) hx hb hts in_X4_says_X4 hown hK hR hm7 rfl 12 (by decide) hw2 (fun _ h9 => h9) hv8 dX4_says_5 ?_
  refine lv_iload_n hx hb dX4_says_8 rfl (lv_at hl 1 rfl) ?_
  obtain ⟨n9, f10, hm12, hv13, h⟩ := h
  replace h := h _ rfl
  refine k_iast hx hb hK hR hS hm12 hv13 dX4_says_9 (fun H locs hR hS => ?_)
  refine lv_aload_n hx hb dX4_says_10 rfl (lv_at hl 0 rfl) ?_
  refine lv_dup hx hb dX4_says_11 rfl ?_
  obtain ⟨fs14, v15, hm16, hv17, h⟩ := h
  refine k_get (ci := 5) (C := RX4) (T := TX4) (N := 13) hx hb hts in_X4_says_X4 hown hK hR hm16 rfl 12 (by decide) hw2 (fun _ h9 => h9) hv17 dX4_says_12 ?_
  refine lv_iconst (v := (1 : Int32)) hx hb dX4_says_15 (by decide) ?_
  refine lv_iadd hx hb dX4_says_16 ?_
  obtain ⟨fs18, hm20, hk21, h⟩ := h
  replace h := h _ rfl
  refine k_put (ci := 5) (v := .int (v15 + (1 : Int32))) (ty := .int) (C := RX4) (T := TX4) (N := 13) hx hb hts in_X4_says_X4 tyX4 tyX4_ok nmX4 hown hK hR hS hm20 rfl 12 (by decide) hw2 (fun _ h9 => h9) rfl (by decide +kernel) rfl rfl hk21 dX4_says_17 (fun H locs hR hS => ?_)
  exact k_retv hx hb hr hlocks hR hS h dX4_says_20

def wp_X4_saysNumber_b37 (G : k_G) (post : k_M → Prop) (x0 : Nat) (x1 : Int32) (M : k_M) : Prop :=
  (∃ fs4, M x0 = some (kO 5 fs4) ∧ wp_X4_says G (fun M2 =>
    post M2) x0 ((48 : Int32) + (x1 - x1 / (10 : Int32) * (10 : Int32))) M)
def wp_X4_saysNumber_b17 (G : k_G) (post : k_M → Prop) (x0 : Nat) (x1 : Int32) (M : k_M) : Prop :=
  ((x1 ≤ (9 : Int32) →
    wp_X4_saysNumber_b37 G post x0 x1 M) ∧
    (¬ x1 ≤ (9 : Int32) →
    (∃ fs8, M x0 = some (kO 5 fs8) ∧ wp_X4_says G (fun M6 =>
      wp_X4_saysNumber_b37 G post x0 x1 M6) x0 ((48 : Int32) + ((x1 / (10 : Int32)) - (x1 / (10 : Int32)) / (10 : Int32) * (10 : Int32))) M)))
def wp_X4_saysNumber (G : k_G) (post : k_M → Prop) (p0 : Nat) (p1 : Int32) (M0 : k_M) : Prop :=
  ((p1 ≤ (99 : Int32) →
  wp_X4_saysNumber_b17 G post p0 p1 M0) ∧
  (¬ p1 ≤ (99 : Int32) →
  (∃ fs12, M0 p0 = some (kO 5 fs12) ∧ wp_X4_says G (fun M10 =>
    wp_X4_saysNumber_b17 G post p0 p1 M10) p0 ((48 : Int32) + (p1 / (100 : Int32))) M0)))
set_option maxHeartbeats 4000000 in
set_option maxRecDepth 100000 in
theorem c_X4_saysNumber (l : Launch) (G : k_G) (M0 : k_M) (sz : Nat) (post : k_M → Prop) (p0 : Nat) (p1 : Int32) (h : wp_X4_saysNumber G post p0 p1 M0) : Met l yX4_saysNumber wsX4_saysNumber ({ frames := 1, cells := 0, slots := 0, locals := 21 }) (va_Pc [.ref p0, .int p1] (kPre G M0 sz)) (va_Qv post (kB G M0 sz) (kA M0 sz)) 0 0 (kA M0 sz) := by
  refine Met.ofW (cc := cX4_saysNumber) (maxL := 2) (ret := none) (by decide) rfl ?_
  intro p e s m args below meth c s₁ B hml hv
  obtain ⟨rfl, hsz, hR, hE⟩ := hv
  have hx := B.exec
  have hb := B.bytes
  have hr := B.returns
  have hts := atoms_spec (ws := wsX4_saysNumber) B.pre
  have hown : s.vm.findClass RX4 = some m.cls := findClass_of_methodNamed B.named
  have hlocks := B.notSynchronized
  subst hsz
  have hK := hE.1
  have hA : ∀ q, s.heap.size ≤ q → kA M0 s.heap.size q := kA.new
  have hS : va_S (kA M0 s.heap.size) s.heap s.heap [] := va_S.rf
  have b37 : ∀ (x0 : Nat) (x1 : Int32) (M : k_M) (H : Heap) (locs : List Loc) (ls : Array Slot), wp_X4_saysNumber_b37 G post x0 x1 M → lv_has ls 2 [(0, .ref x0), (1, .int x1)] → kR G M (kA M0 s.heap.size) H → va_S (kA M0 s.heap.size) s.heap H locs → W p l e (headSpec wsX4_saysNumber ({ frames := 1, cells := 0, slots := 0, locals := 21 })).room s m ([.ref p0, .int p1] : List Value).toArray below meth c H locs 0 0 (MQ below (va_Qv post (kB G M0 s.heap.size) (kA M0 s.heap.size)) ([.ref p0, .int p1] : List Value).toArray s 0 0 (kA M0 s.heap.size)) (F0 m 37 ls []) := by
    intro x0 x1 M H locs ls h hl hR hS
    refine lv_aload_n hx hb dX4_saysNumber_37 rfl (lv_at hl 0 rfl) ?_
    refine lv_bipush (v := (48 : Int32)) hx hb dX4_saysNumber_38 (by decide) ?_
    refine lv_iload_n hx hb dX4_saysNumber_40 rfl (lv_at hl 1 rfl) ?_
    refine lv_bipush (v := (10 : Int32)) hx hb dX4_saysNumber_41 (by decide) ?_
    refine lv_irem hx hb dX4_saysNumber_43 (by decide) ?_
    refine lv_iadd hx hb dX4_saysNumber_44 ?_
    obtain ⟨fs4, hm3, h⟩ := h
    refine k_callv0 (va_runV (As := [.int ((48 : Int32) + (x1 - x1 / (10 : Int32) * (10 : Int32)))]) (rest := []) ⟨hx, hb, hml, hown, hts⟩ (c_X4_says l G _ _ _ x0 ((48 : Int32) + (x1 - x1 / (10 : Int32) * (10 : Int32))) h) (cwV 1 hts gX4_saysNumber_X4_says rfl rfl rfl (by decide +kernel) ⟨Nat.le_of_ble_eq_true rfl, Nat.le_of_ble_eq_true rfl⟩) (k_preV (q := (RX4, TX4, 13)) hm3 rfl hR hS hA hE) rfl rfl hl.1 rfl (lv_room (Nat.le_of_ble_eq_true rfl)) dX4_saysNumber_45 ⟨Nat.zero_le _, Nat.zero_le _⟩) hR hS hA (fun M2 H locs h hR hS => ?_)
    exact k_retv hx hb hr hlocks hR hS h dX4_saysNumber_48
  have b17 : ∀ (x0 : Nat) (x1 : Int32) (M : k_M) (H : Heap) (locs : List Loc) (ls : Array Slot), wp_X4_saysNumber_b17 G post x0 x1 M → lv_has ls 2 [(0, .ref x0), (1, .int x1)] → kR G M (kA M0 s.heap.size) H → va_S (kA M0 s.heap.size) s.heap H locs → W p l e (headSpec wsX4_saysNumber ({ frames := 1, cells := 0, slots := 0, locals := 21 })).room s m ([.ref p0, .int p1] : List Value).toArray below meth c H locs 0 0 (MQ below (va_Qv post (kB G M0 s.heap.size) (kA M0 s.heap.size)) ([.ref p0, .int p1] : List Value).toArray s 0 0 (kA M0 s.heap.size)) (F0 m 17 ls []) := by
    intro x0 x1 M H locs ls h hl hR hS
    refine lv_iload_n hx hb dX4_saysNumber_17 rfl (lv_at hl 1 rfl) ?_
    refine lv_bipush (v := (9 : Int32)) hx hb dX4_saysNumber_18 (by decide) ?_
    obtain ⟨ha, hb2⟩ := h
    refine lv_icmp_le (tgt := 37) hx hb dX4_saysNumber_20 (by decide) (fun hc => ?_) (fun hc => ?_)
    · replace h := ha hc
      exact b37 _ _ _ _ _ _ h (lv_sub hl [0, 1] rfl) hR hS
    · replace h := hb2 hc
      refine lv_aload_n hx hb dX4_saysNumber_23 rfl (lv_at hl 0 rfl) ?_
      refine lv_bipush (v := (48 : Int32)) hx hb dX4_saysNumber_24 (by decide) ?_
      refine lv_iload_n hx hb dX4_saysNumber_26 rfl (lv_at hl 1 rfl) ?_
      refine lv_bipush (v := (10 : Int32)) hx hb dX4_saysNumber_27 (by decide) ?_
      refine lv_idiv hx hb dX4_saysNumber_29 (by decide) ?_
      refine lv_bipush (v := (10 : Int32)) hx hb dX4_saysNumber_30 (by decide) ?_
      refine lv_irem hx hb dX4_saysNumber_32 (by decide) ?_
      refine lv_iadd hx hb dX4_saysNumber_33 ?_
      obtain ⟨fs8, hm7, h⟩ := h
      refine k_callv0 (va_runV (As := [.int ((48 : Int32) + ((x1 / (10 : Int32)) - (x1 / (10 : Int32)) / (10 : Int32) * (10 : Int32)))]) (rest := []) ⟨hx, hb, hml, hown, hts⟩ (c_X4_says l G _ _ _ x0 ((48 : Int32) + ((x1 / (10 : Int32)) - (x1 / (10 : Int32)) / (10 : Int32) * (10 : Int32))) h) (cwV 1 hts gX4_saysNumber_X4_says rfl rfl rfl (by decide +kernel) ⟨Nat.le_of_ble_eq_true rfl, Nat.le_of_ble_eq_true rfl⟩) (k_preV (q := (RX4, TX4, 13)) hm7 rfl hR hS hA hE) rfl rfl hl.1 rfl (lv_room (Nat.le_of_ble_eq_true rfl)) dX4_saysNumber_34 ⟨Nat.zero_le _, Nat.zero_le _⟩) hR hS hA (fun M6 H locs h hR hS => ?_)
      exact b37 _ _ _ _ _ _ h (lv_sub hl [0, 1] rfl) hR hS
  have hl := lv_entry ([.ref p0, .int p1]) (n := 2) (Nat.le_of_ble_eq_true rfl)
  rw [lg_entry_eq]
  generalize (lg_sl ([.ref p0, .int p1]) ++ List.replicate (2 - (lg_sl ([.ref p0, .int p1])).length) Slot.unset).toArray = ls at hl ⊢
  have hl : lv_has ls 2 [(0, .ref p0), (1, .int p1)] := hl
  have hR0 := hR
  refine lv_iload_n hx hb dX4_saysNumber_0 rfl (lv_at hl 1 rfl) ?_
  refine lv_bipush (v := (99 : Int32)) hx hb dX4_saysNumber_1 (by decide) ?_
  obtain ⟨ha, hb2⟩ := h
  refine lv_icmp_le (tgt := 17) hx hb dX4_saysNumber_3 (by decide) (fun hc => ?_) (fun hc => ?_)
  · replace h := ha hc
    exact b17 _ _ _ _ _ _ h (lv_sub hl [0, 1] rfl) hR hS
  · replace h := hb2 hc
    refine lv_aload_n hx hb dX4_saysNumber_6 rfl (lv_at hl 0 rfl) ?_
    refine lv_bipush (v := (48 : Int32)) hx hb dX4_saysNumber_7 (by decide) ?_
    refine lv_iload_n hx hb dX4_saysNumber_9 rfl (lv_at hl 1 rfl) ?_
    refine lv_bipush (v := (100 : Int32)) hx hb dX4_saysNumber_10 (by decide) ?_
    refine lv_idiv hx hb dX4_saysNumber_12 (by decide) ?_
    refine lv_iadd hx hb dX4_saysNumber_13 ?_
    obtain ⟨fs12, hm11, h⟩ := h
    refine k_callv0 (va_runV (As := [.int ((48 : Int32) + (p1 / (100 : Int32)))]) (rest := []) ⟨hx, hb, hml, hown, hts⟩ (c_X4_says l G _ _ _ p0 ((48 : Int32) + (p1 / (100 : Int32))) h) (cwV 1 hts gX4_saysNumber_X4_says rfl rfl rfl (by decide +kernel) ⟨Nat.le_of_ble_eq_true rfl, Nat.le_of_ble_eq_true rfl⟩) (k_preV (q := (RX4, TX4, 13)) hm11 rfl hR hS hA hE) rfl rfl hl.1 rfl (lv_room (Nat.le_of_ble_eq_true rfl)) dX4_saysNumber_14 ⟨Nat.zero_le _, Nat.zero_le _⟩) hR hS hA (fun M10 H locs h hR hS => ?_)
    exact b17 _ _ _ _ _ _ h (lv_sub hl [0, 1] rfl) hR hS

def wp_X4_print_b111 (G : k_G) (post : k_M → Prop) (K7 : Nat → Int32 → Int32 → k_M → Prop) (x0 : Nat) (x1 : Int32) (x2 : Int32) (M : k_M) : Prop :=
  (((16 : Int32) ≤ x2 →
    K7 x0 x1 x2 M) ∧
    (¬ (16 : Int32) ≤ x2 →
    (∃ fs23, M x0 = some (kO 5 fs23) ∧ wp_X4_says G (fun M21 =>
      K7 x0 x1 x2 M21) x0 (44 : Int32) M)))
def wp_X4_print_L82 (G : k_G) (post : k_M → Prop) (K7 : Nat → Int32 → Int32 → k_M → Prop) : Nat → Nat → Int32 → Int32 → Int32 → k_M → Prop
  | 0 => fun _ _ _ _ _ => False
  | n + 1 => fun x0 x1 x2 x4 M =>
  (((16 : Int32) < x4 →
      wp_X4_print_b111 G post K7 x0 x1 x2 M) ∧
      (¬ (16 : Int32) < x4 →
      (¬ x4 = 0 ∧ ((¬ (x2 - x2 / x4 * x4) = 0 →
        wp_X4_print_b111 G post K7 x0 x1 x2 M) ∧
        ((x2 - x2 / x4 * x4) = 0 →
        (∃ fs28, M x0 = some (kO 5 fs28) ∧ wp_X4_says G (fun M26 =>
          (wp_X4_print_L82 G post K7 n) x0 x1 x2 (x4 * (2 : Int32)) M26) x0 (41 : Int32) M))))))
def wp_X4_print_b59 (G : k_G) (post : k_M → Prop) (K7 : Nat → Int32 → Int32 → k_M → Prop) (x0 : Nat) (x1 : Int32) (x2 : Int32) (x3 : Int32) (M : k_M) : Prop :=
  (∃ fs7 v8, M x0 = some (kO 5 fs7) ∧ fs7[0]? = some (.ref v8) ∧
    (∃ n11 f12, M v8 = some (kI G n11 f12) ∧ vp_in ((x1 + (1 : Int32)) + x2) n11 ∧
    (∃ fs18, M x0 = some (kO 5 fs18) ∧ wp_X4_saysNumber G (fun M16 =>
    ∃ k19, wp_X4_print_L82 G post K7 k19 x0 x1 (x2 + x3) ((2 : Int32) * x3) M16) x0 (f12 (((x1 + (1 : Int32)) + x2)).toNatClampNeg) M)))
def wp_X4_print_b40 (G : k_G) (post : k_M → Prop) (K7 : Nat → Int32 → Int32 → k_M → Prop) (K16 : Nat → Int32 → Int32 → Int32 → k_M → Prop) (x0 : Nat) (x1 : Int32) (x2 : Int32) (x3 : Int32) (M : k_M) : Prop :=
  (¬ x3 = 0 ∧ ((¬ (x2 - x2 / x3 * x3) = 0 →
    K16 x0 x1 x2 (x3 / (2 : Int32)) M) ∧
    ((x2 - x2 / x3 * x3) = 0 →
    (∃ fs34, M x0 = some (kO 5 fs34) ∧ wp_X4_says G (fun M32 =>
      K16 x0 x1 x2 (x3 / (2 : Int32)) M32) x0 (40 : Int32) M))))
def wp_X4_print_L16 (G : k_G) (post : k_M → Prop) (K7 : Nat → Int32 → Int32 → k_M → Prop) : Nat → Nat → Int32 → Int32 → Int32 → k_M → Prop
  | 0 => fun _ _ _ _ _ => False
  | n + 1 => fun x0 x1 x2 x3 M =>
  ((x3 ≤ (1 : Int32) →
      wp_X4_print_b59 G post K7 x0 x1 x2 x3 M) ∧
      (¬ x3 ≤ (1 : Int32) →
      (¬ x3 = 0 ∧ ((¬ (x2 - x2 / x3 * x3) = 0 →
        wp_X4_print_b40 G post K7 (wp_X4_print_L16 G post K7 n) x0 x1 x2 x3 M) ∧
        ((x2 - x2 / x3 * x3) = 0 →
        (∃ fs35 v36, M x0 = some (kO 5 fs35) ∧ fs35[0]? = some (.ref v36) ∧
          wp_X4_areAlike G (fun r39 M40 =>
          ((¬ r39 = 0 →
          wp_X4_print_b59 G post K7 x0 x1 x2 x3 M40) ∧
          (r39 = 0 →
          wp_X4_print_b40 G post K7 (wp_X4_print_L16 G post K7 n) x0 x1 x2 x3 M40))) v36 x1 x2 x3 M))))))
def wp_X4_print_L7 (G : k_G) (post : k_M → Prop) : Nat → Nat → Int32 → Int32 → k_M → Prop
  | 0 => fun _ _ _ _ => False
  | n + 1 => fun x0 x1 x2 M =>
  (((16 : Int32) ≤ x2 →
      post M) ∧
      (¬ (16 : Int32) ≤ x2 →
      ∃ k6, wp_X4_print_L16 G post (wp_X4_print_L7 G post n) k6 x0 x1 x2 (16 : Int32) M))
def wp_X4_print (G : k_G) (post : k_M → Prop) (p0 : Nat) (p1 : Int32) (M0 : k_M) : Prop :=
  (∃ fs1, M0 p0 = some (kO 5 fs1) ∧ 12 < fs1.length ∧ ∀ M2 : k_M, M2 = va_up M0 p0 (some (kO 5 (fs1.set 12 (.int (0 : Int32))))) →
  ∃ k5, wp_X4_print_L7 G post k5 p0 p1 (0 : Int32) M2)
theorem in_X4_print_X4 : ∀ w ∈ wsX40, w ∈ wsX4_print := by decide +kernel
set_option maxHeartbeats 4000000 in
set_option maxRecDepth 100000 in
theorem c_X4_print (l : Launch) (G : k_G) (M0 : k_M) (sz : Nat) (post : k_M → Prop) (p0 : Nat) (p1 : Int32) (h : wp_X4_print G post p0 p1 M0) : Met l yX4_print wsX4_print ({ frames := 2, cells := 0, slots := 0, locals := 42 }) (va_Pc [.ref p0, .int p1] (kPre G M0 sz)) (va_Qv post (kB G M0 sz) (kA M0 sz)) 0 0 (kA M0 sz) := by
  refine Met.ofW (cc := cX4_print) (maxL := 5) (ret := none) (by decide) rfl ?_
  intro p e s m args below meth c s₁ B hml hv
  obtain ⟨rfl, hsz, hR, hE⟩ := hv
  have hx := B.exec
  have hb := B.bytes
  have hr := B.returns
  have hts := atoms_spec (ws := wsX4_print) B.pre
  have hown : s.vm.findClass RX4 = some m.cls := findClass_of_methodNamed B.named
  have hlocks := B.notSynchronized
  subst hsz
  have hK := hE.1
  have hA : ∀ q, s.heap.size ≤ q → kA M0 s.heap.size q := kA.new
  have hS : va_S (kA M0 s.heap.size) s.heap s.heap [] := va_S.rf
  have hw1 := hts (.fieldLink RX4 78 "ForkedStampsModel" "textLength" "I") (by decide +kernel)
  have hw2 := hts (.fieldLink RX4 7 "ForkedStampsModel" "state" "[I") (by decide +kernel)
  have b111 : ∀ (K7 : Nat → Int32 → Int32 → k_M → Prop) (hK7 : ∀ (x0 : Nat) (x1 : Int32) (x2 : Int32) (M : k_M) (H : Heap) (locs : List Loc) (ls : Array Slot), K7 x0 x1 x2 M → lv_has ls 5 [(0, .ref x0), (1, .int x1), (2, .int x2)] → kR G M (kA M0 s.heap.size) H → va_S (kA M0 s.heap.size) s.heap H locs → W p l e (headSpec wsX4_print ({ frames := 2, cells := 0, slots := 0, locals := 42 })).room s m ([.ref p0, .int p1] : List Value).toArray below meth c H locs 0 0 (MQ below (va_Qv post (kB G M0 s.heap.size) (kA M0 s.heap.size)) ([.ref p0, .int p1] : List Value).toArray s 0 0 (kA M0 s.heap.size)) (F0 m 7 ls [])), ∀ (x0 : Nat) (x1 : Int32) (x2 : Int32) (M : k_M) (H : Heap) (locs : List Loc) (ls : Array Slot), wp_X4_print_b111 G post K7 x0 x1 x2 M → lv_has ls 5 [(0, .ref x0), (1, .int x1), (2, .int x2)] → kR G M (kA M0 s.heap.size) H → va_S (kA M0 s.heap.size) s.heap H locs → W p l e (headSpec wsX4_print ({ frames := 2, cells := 0, slots := 0, locals := 42 })).room s m ([.ref p0, .int p1] : List Value).toArray below meth c H locs 0 0 (MQ below (va_Qv post (kB G M0 s.heap.size) (kA M0 s.heap.size)) ([.ref p0, .int p1] : List Value).toArray s 0 0 (kA M0 s.heap.size)) (F0 m 111 ls []) := by
    intro K7 hK7 x0 x1 x2 M H locs ls h hl hR hS
    refine lv_iload_n hx hb dX4_print_111 rfl (lv_at hl 2 rfl) ?_
    refine lv_bipush (v := (16 : Int32)) hx hb dX4_print_112 (by decide) ?_
    obtain ⟨ha, hb2⟩ := h
    refine lv_icmp_ge (tgt := 123) hx hb dX4_print_114 (by decide) (fun hc => ?_) (fun hc => ?_)
    · replace h := ha hc
      refine lv_goto (tgt := 7) hx hb dX4_print_123 (by decide) ?_
      exact hK7 _ _ _ _ _ _ _ h (lv_sub hl [0, 1, 2] rfl) hR hS
    · replace h := hb2 hc
      refine lv_aload_n hx hb dX4_print_117 rfl (lv_at hl 0 rfl) ?_
      refine lv_bipush (v := (44 : Int32)) hx hb dX4_print_118 (by decide) ?_
      obtain ⟨fs23, hm22, h⟩ := h
      refine k_callv0 (va_runV (As := [.int (44 : Int32)]) (rest := []) ⟨hx, hb, hml, hown, hts⟩ (c_X4_says l G _ _ _ x0 (44 : Int32) h) (cwV 1 hts gX4_print_X4_says rfl rfl rfl (by decide +kernel) ⟨Nat.le_of_ble_eq_true rfl, Nat.le_of_ble_eq_true rfl⟩) (k_preV (q := (RX4, TX4, 13)) hm22 rfl hR hS hA hE) rfl rfl hl.1 rfl (lv_room (Nat.le_of_ble_eq_true rfl)) dX4_print_120 ⟨Nat.zero_le _, Nat.zero_le _⟩) hR hS hA (fun M21 H locs h hR hS => ?_)
      refine lv_goto (tgt := 7) hx hb dX4_print_123 (by decide) ?_
      exact hK7 _ _ _ _ _ _ _ h (lv_sub hl [0, 1, 2] rfl) hR hS
  have L82 : ∀ (K7 : Nat → Int32 → Int32 → k_M → Prop) (hK7 : ∀ (x0 : Nat) (x1 : Int32) (x2 : Int32) (M : k_M) (H : Heap) (locs : List Loc) (ls : Array Slot), K7 x0 x1 x2 M → lv_has ls 5 [(0, .ref x0), (1, .int x1), (2, .int x2)] → kR G M (kA M0 s.heap.size) H → va_S (kA M0 s.heap.size) s.heap H locs → W p l e (headSpec wsX4_print ({ frames := 2, cells := 0, slots := 0, locals := 42 })).room s m ([.ref p0, .int p1] : List Value).toArray below meth c H locs 0 0 (MQ below (va_Qv post (kB G M0 s.heap.size) (kA M0 s.heap.size)) ([.ref p0, .int p1] : List Value).toArray s 0 0 (kA M0 s.heap.size)) (F0 m 7 ls [])) (n : Nat), ∀ (x0 : Nat) (x1 : Int32) (x2 : Int32) (x4 : Int32) (M : k_M) (H : Heap) (locs : List Loc) (ls : Array Slot), wp_X4_print_L82 G post K7 n x0 x1 x2 x4 M → lv_has ls 5 [(0, .ref x0), (1, .int x1), (2, .int x2), (4, .int x4)] → kR G M (kA M0 s.heap.size) H → va_S (kA M0 s.heap.size) s.heap H locs → W p l e (headSpec wsX4_print ({ frames := 2, cells := 0, slots := 0, locals := 42 })).room s m ([.ref p0, .int p1] : List Value).toArray below meth c H locs 0 0 (MQ below (va_Qv post (kB G M0 s.heap.size) (kA M0 s.heap.size)) ([.ref p0, .int p1] : List Value).toArray s 0 0 (kA M0 s.heap.size)) (F0 m 82 ls []) := by
    intro K7 hK7 n
    induction n with
    | zero =>
      intro  x0 x1 x2 x4 M H locs ls h
      exact False.elim h
    | succ n ih =>
      intro  x0 x1 x2 x4 M H locs ls h hl hR hS
      refine lv_iload hx hb dX4_print_82 (lv_at hl 3 rfl) ?_
      refine lv_bipush (v := (16 : Int32)) hx hb dX4_print_84 (by decide) ?_
      obtain ⟨ha, hb2⟩ := h
      refine lv_icmp_gt (tgt := 111) hx hb dX4_print_86 (by decide) (fun hc => ?_) (fun hc => ?_)
      · replace h := ha hc
        exact b111 _ hK7 _ _ _ _ _ _ _ h (lv_sub hl [0, 1, 2] rfl) hR hS
      · replace h := hb2 hc
        refine lv_iload_n hx hb dX4_print_89 rfl (lv_at hl 2 rfl) ?_
        refine lv_iload hx hb dX4_print_90 (lv_at hl 3 rfl) ?_
        obtain ⟨hz24, h⟩ := h
        refine lv_irem hx hb dX4_print_92 hz24 ?_
        obtain ⟨ha, hb2⟩ := h
        refine lv_if_ne (tgt := 111) hx hb dX4_print_93 (by decide) (fun hc => ?_) (fun hc => ?_)
        · replace h := ha hc
          exact b111 _ hK7 _ _ _ _ _ _ _ h (lv_sub hl [0, 1, 2] rfl) hR hS
        · replace h := hb2 hc
          refine lv_aload_n hx hb dX4_print_96 rfl (lv_at hl 0 rfl) ?_
          refine lv_bipush (v := (41 : Int32)) hx hb dX4_print_97 (by decide) ?_
          obtain ⟨fs28, hm27, h⟩ := h
          refine k_callv0 (va_runV (As := [.int (41 : Int32)]) (rest := []) ⟨hx, hb, hml, hown, hts⟩ (c_X4_says l G _ _ _ x0 (41 : Int32) h) (cwV 1 hts gX4_print_X4_says rfl rfl rfl (by decide +kernel) ⟨Nat.le_of_ble_eq_true rfl, Nat.le_of_ble_eq_true rfl⟩) (k_preV (q := (RX4, TX4, 13)) hm27 rfl hR hS hA hE) rfl rfl hl.1 rfl (lv_room (Nat.le_of_ble_eq_true rfl)) dX4_print_99 ⟨Nat.zero_le _, Nat.zero_le _⟩) hR hS hA (fun M26 H locs h hR hS => ?_)
          refine lv_iload hx hb dX4_print_102 (lv_at hl 3 rfl) ?_
          refine lv_iconst (v := (2 : Int32)) hx hb dX4_print_104 (by decide) ?_
          refine lv_imul hx hb dX4_print_105 ?_
          refine lv_istore (lv' := [(4, .int (x4 * (2 : Int32))), (0, .ref x0), (1, .int x1), (2, .int x2)]) hx hb dX4_print_106 hl (by decide) rfl (fun ls hl => ?_)
          refine lv_goto (tgt := 82) hx hb dX4_print_108 (by decide) ?_
          exact ih _ _ _ _ _ _ _ _ h (lv_sub hl [1, 2, 3, 0] rfl) hR hS
  have b59 : ∀ (K7 : Nat → Int32 → Int32 → k_M → Prop) (hK7 : ∀ (x0 : Nat) (x1 : Int32) (x2 : Int32) (M : k_M) (H : Heap) (locs : List Loc) (ls : Array Slot), K7 x0 x1 x2 M → lv_has ls 5 [(0, .ref x0), (1, .int x1), (2, .int x2)] → kR G M (kA M0 s.heap.size) H → va_S (kA M0 s.heap.size) s.heap H locs → W p l e (headSpec wsX4_print ({ frames := 2, cells := 0, slots := 0, locals := 42 })).room s m ([.ref p0, .int p1] : List Value).toArray below meth c H locs 0 0 (MQ below (va_Qv post (kB G M0 s.heap.size) (kA M0 s.heap.size)) ([.ref p0, .int p1] : List Value).toArray s 0 0 (kA M0 s.heap.size)) (F0 m 7 ls [])), ∀ (x0 : Nat) (x1 : Int32) (x2 : Int32) (x3 : Int32) (M : k_M) (H : Heap) (locs : List Loc) (ls : Array Slot), wp_X4_print_b59 G post K7 x0 x1 x2 x3 M → lv_has ls 5 [(0, .ref x0), (1, .int x1), (2, .int x2), (3, .int x3)] → kR G M (kA M0 s.heap.size) H → va_S (kA M0 s.heap.size) s.heap H locs → W p l e (headSpec wsX4_print ({ frames := 2, cells := 0, slots := 0, locals := 42 })).room s m ([.ref p0, .int p1] : List Value).toArray below meth c H locs 0 0 (MQ below (va_Qv post (kB G M0 s.heap.size) (kA M0 s.heap.size)) ([.ref p0, .int p1] : List Value).toArray s 0 0 (kA M0 s.heap.size)) (F0 m 59 ls []) := by
    intro K7 hK7 x0 x1 x2 x3 M H locs ls h hl hR hS
    refine lv_aload_n hx hb dX4_print_59 rfl (lv_at hl 0 rfl) ?_
    refine lv_aload_n hx hb dX4_print_60 rfl (lv_at hl 0 rfl) ?_
    obtain ⟨fs7, v8, hm9, hv10, h⟩ := h
    refine k_get (ci := 5) (C := RX4) (T := TX4) (N := 13) hx hb hts in_X4_print_X4 hown hK hR hm9 rfl 0 (by decide) hw2 (fun _ h9 => h9) hv10 dX4_print_61 ?_
    refine lv_iload_n hx hb dX4_print_64 rfl (lv_at hl 1 rfl) ?_
    refine lv_iconst (v := (1 : Int32)) hx hb dX4_print_65 (by decide) ?_
    refine lv_iadd hx hb dX4_print_66 ?_
    refine lv_iload_n hx hb dX4_print_67 rfl (lv_at hl 2 rfl) ?_
    refine lv_iadd hx hb dX4_print_68 ?_
    obtain ⟨n11, f12, hm13, hv14, h⟩ := h
    refine k_iald hx hb hK hR hm13 hv14 dX4_print_69 ?_
    obtain ⟨fs18, hm17, h⟩ := h
    refine k_callv0 (va_runV (As := [.int (f12 (((x1 + (1 : Int32)) + x2)).toNatClampNeg)]) (rest := []) ⟨hx, hb, hml, hown, hts⟩ (c_X4_saysNumber l G _ _ _ x0 (f12 (((x1 + (1 : Int32)) + x2)).toNatClampNeg) h) (cwV 1 hts gX4_print_X4_saysNumber rfl rfl rfl (by decide +kernel) ⟨Nat.le_of_ble_eq_true rfl, Nat.le_of_ble_eq_true rfl⟩) (k_preV (q := (RX4, TX4, 13)) hm17 rfl hR hS hA hE) rfl rfl hl.1 rfl (lv_room (Nat.le_of_ble_eq_true rfl)) dX4_print_70 ⟨Nat.zero_le _, Nat.zero_le _⟩) hR hS hA (fun M16 H locs h hR hS => ?_)
    refine lv_iload_n hx hb dX4_print_73 rfl (lv_at hl 2 rfl) ?_
    refine lv_iload_n hx hb dX4_print_74 rfl (lv_at hl 3 rfl) ?_
    refine lv_iadd hx hb dX4_print_75 ?_
    refine lv_istore_n (lv' := [(2, .int (x2 + x3)), (0, .ref x0), (1, .int x1), (3, .int x3)]) hx hb dX4_print_76 rfl hl (by decide) rfl (fun ls hl => ?_)
    refine lv_iconst (v := (2 : Int32)) hx hb dX4_print_77 (by decide) ?_
    refine lv_iload_n hx hb dX4_print_78 rfl (lv_at hl 3 rfl) ?_
    refine lv_imul hx hb dX4_print_79 ?_
    refine lv_istore (lv' := [(4, .int ((2 : Int32) * x3)), (2, .int (x2 + x3)), (0, .ref x0), (1, .int x1), (3, .int x3)]) hx hb dX4_print_80 hl (by decide) rfl (fun ls hl => ?_)
    obtain ⟨k19, h⟩ := h
    exact L82 _ hK7 k19 _ _ _ _ _ _ _ _ h (lv_sub hl [2, 3, 1, 0] rfl) hR hS
  have b40 : ∀ (K7 : Nat → Int32 → Int32 → k_M → Prop) (hK7 : ∀ (x0 : Nat) (x1 : Int32) (x2 : Int32) (M : k_M) (H : Heap) (locs : List Loc) (ls : Array Slot), K7 x0 x1 x2 M → lv_has ls 5 [(0, .ref x0), (1, .int x1), (2, .int x2)] → kR G M (kA M0 s.heap.size) H → va_S (kA M0 s.heap.size) s.heap H locs → W p l e (headSpec wsX4_print ({ frames := 2, cells := 0, slots := 0, locals := 42 })).room s m ([.ref p0, .int p1] : List Value).toArray below meth c H locs 0 0 (MQ below (va_Qv post (kB G M0 s.heap.size) (kA M0 s.heap.size)) ([.ref p0, .int p1] : List Value).toArray s 0 0 (kA M0 s.heap.size)) (F0 m 7 ls [])) (K16 : Nat → Int32 → Int32 → Int32 → k_M → Prop) (hK16 : ∀ (x0 : Nat) (x1 : Int32) (x2 : Int32) (x3 : Int32) (M : k_M) (H : Heap) (locs : List Loc) (ls : Array Slot), K16 x0 x1 x2 x3 M → lv_has ls 5 [(0, .ref x0), (1, .int x1), (2, .int x2), (3, .int x3)] → kR G M (kA M0 s.heap.size) H → va_S (kA M0 s.heap.size) s.heap H locs → W p l e (headSpec wsX4_print ({ frames := 2, cells := 0, slots := 0, locals := 42 })).room s m ([.ref p0, .int p1] : List Value).toArray below meth c H locs 0 0 (MQ below (va_Qv post (kB G M0 s.heap.size) (kA M0 s.heap.size)) ([.ref p0, .int p1] : List Value).toArray s 0 0 (kA M0 s.heap.size)) (F0 m 16 ls [])), ∀ (x0 : Nat) (x1 : Int32) (x2 : Int32) (x3 : Int32) (M : k_M) (H : Heap) (locs : List Loc) (ls : Array Slot), wp_X4_print_b40 G post K7 K16 x0 x1 x2 x3 M → lv_has ls 5 [(0, .ref x0), (1, .int x1), (2, .int x2), (3, .int x3)] → kR G M (kA M0 s.heap.size) H → va_S (kA M0 s.heap.size) s.heap H locs → W p l e (headSpec wsX4_print ({ frames := 2, cells := 0, slots := 0, locals := 42 })).room s m ([.ref p0, .int p1] : List Value).toArray below meth c H locs 0 0 (MQ below (va_Qv post (kB G M0 s.heap.size) (kA M0 s.heap.size)) ([.ref p0, .int p1] : List Value).toArray s 0 0 (kA M0 s.heap.size)) (F0 m 40 ls []) := by
    intro K7 hK7 K16 hK16 x0 x1 x2 x3 M H locs ls h hl hR hS
    refine lv_iload_n hx hb dX4_print_40 rfl (lv_at hl 2 rfl) ?_
    refine lv_iload_n hx hb dX4_print_41 rfl (lv_at hl 3 rfl) ?_
    obtain ⟨hz30, h⟩ := h
    refine lv_irem hx hb dX4_print_42 hz30 ?_
    obtain ⟨ha, hb2⟩ := h
    refine lv_if_ne (tgt := 52) hx hb dX4_print_43 (by decide) (fun hc => ?_) (fun hc => ?_)
    · replace h := ha hc
      refine lv_iload_n hx hb dX4_print_52 rfl (lv_at hl 3 rfl) ?_
      refine lv_iconst (v := (2 : Int32)) hx hb dX4_print_53 (by decide) ?_
      refine lv_idiv hx hb dX4_print_54 (by decide) ?_
      refine lv_istore_n (lv' := [(3, .int (x3 / (2 : Int32))), (0, .ref x0), (1, .int x1), (2, .int x2)]) hx hb dX4_print_55 rfl hl (by decide) rfl (fun ls hl => ?_)
      refine lv_goto (tgt := 16) hx hb dX4_print_56 (by decide) ?_
      exact hK16 _ _ _ _ _ _ _ _ h (lv_sub hl [1, 2, 3, 0] rfl) hR hS
    · replace h := hb2 hc
      refine lv_aload_n hx hb dX4_print_46 rfl (lv_at hl 0 rfl) ?_
      refine lv_bipush (v := (40 : Int32)) hx hb dX4_print_47 (by decide) ?_
      obtain ⟨fs34, hm33, h⟩ := h
      refine k_callv0 (va_runV (As := [.int (40 : Int32)]) (rest := []) ⟨hx, hb, hml, hown, hts⟩ (c_X4_says l G _ _ _ x0 (40 : Int32) h) (cwV 1 hts gX4_print_X4_says rfl rfl rfl (by decide +kernel) ⟨Nat.le_of_ble_eq_true rfl, Nat.le_of_ble_eq_true rfl⟩) (k_preV (q := (RX4, TX4, 13)) hm33 rfl hR hS hA hE) rfl rfl hl.1 rfl (lv_room (Nat.le_of_ble_eq_true rfl)) dX4_print_49 ⟨Nat.zero_le _, Nat.zero_le _⟩) hR hS hA (fun M32 H locs h hR hS => ?_)
      refine lv_iload_n hx hb dX4_print_52 rfl (lv_at hl 3 rfl) ?_
      refine lv_iconst (v := (2 : Int32)) hx hb dX4_print_53 (by decide) ?_
      refine lv_idiv hx hb dX4_print_54 (by decide) ?_
      refine lv_istore_n (lv' := [(3, .int (x3 / (2 : Int32))), (0, .ref x0), (1, .int x1), (2, .int x2)]) hx hb dX4_print_55 rfl hl (by decide) rfl (fun ls hl => ?_)
      refine lv_goto (tgt := 16) hx hb dX4_print_56 (by decide) ?_
      exact hK16 _ _ _ _ _ _ _ _ h (lv_sub hl [1, 2, 3, 0] rfl) hR hS
  have L16 : ∀ (K7 : Nat → Int32 → Int32 → k_M → Prop) (hK7 : ∀ (x0 : Nat) (x1 : Int32) (x2 : Int32) (M : k_M) (H : Heap) (locs : List Loc) (ls : Array Slot), K7 x0 x1 x2 M → lv_has ls 5 [(0, .ref x0), (1, .int x1), (2, .int x2)] → kR G M (kA M0 s.heap.size) H → va_S (kA M0 s.heap.size) s.heap H locs → W p l e (headSpec wsX4_print ({ frames := 2, cells := 0, slots := 0, locals := 42 })).room s m ([.ref p0, .int p1] : List Value).toArray below meth c H locs 0 0 (MQ below (va_Qv post (kB G M0 s.heap.size) (kA M0 s.heap.size)) ([.ref p0, .int p1] : List Value).toArray s 0 0 (kA M0 s.heap.size)) (F0 m 7 ls [])) (n : Nat), ∀ (x0 : Nat) (x1 : Int32) (x2 : Int32) (x3 : Int32) (M : k_M) (H : Heap) (locs : List Loc) (ls : Array Slot), wp_X4_print_L16 G post K7 n x0 x1 x2 x3 M → lv_has ls 5 [(0, .ref x0), (1, .int x1), (2, .int x2), (3, .int x3)] → kR G M (kA M0 s.heap.size) H → va_S (kA M0 s.heap.size) s.heap H locs → W p l e (headSpec wsX4_print ({ frames := 2, cells := 0, slots := 0, locals := 42 })).room s m ([.ref p0, .int p1] : List Value).toArray below meth c H locs 0 0 (MQ below (va_Qv post (kB G M0 s.heap.size) (kA M0 s.heap.size)) ([.ref p0, .int p1] : List Value).toArray s 0 0 (kA M0 s.heap.size)) (F0 m 16 ls []) := by
    intro K7 hK7 n
    induction n with
    | zero =>
      intro  x0 x1 x2 x3 M H locs ls h
      exact False.elim h
    | succ n ih =>
      intro  x0 x1 x2 x3 M H locs ls h hl hR hS
      refine lv_iload_n hx hb dX4_print_16 rfl (lv_at hl 3 rfl) ?_
      refine lv_iconst (v := (1 : Int32)) hx hb dX4_print_17 (by decide) ?_
      obtain ⟨ha, hb2⟩ := h
      refine lv_icmp_le (tgt := 59) hx hb dX4_print_18 (by decide) (fun hc => ?_) (fun hc => ?_)
      · replace h := ha hc
        exact b59 _ hK7 _ _ _ _ _ _ _ _ h (lv_sub hl [0, 1, 2, 3] rfl) hR hS
      · replace h := hb2 hc
        refine lv_iload_n hx hb dX4_print_21 rfl (lv_at hl 2 rfl) ?_
        refine lv_iload_n hx hb dX4_print_22 rfl (lv_at hl 3 rfl) ?_
        obtain ⟨hz29, h⟩ := h
        refine lv_irem hx hb dX4_print_23 hz29 ?_
        obtain ⟨ha, hb2⟩ := h
        refine lv_if_ne (tgt := 40) hx hb dX4_print_24 (by decide) (fun hc => ?_) (fun hc => ?_)
        · replace h := ha hc
          exact b40 _ hK7 _ ih _ _ _ _ _ _ _ _ h (lv_sub hl [0, 1, 2, 3] rfl) hR hS
        · replace h := hb2 hc
          refine lv_aload_n hx hb dX4_print_27 rfl (lv_at hl 0 rfl) ?_
          obtain ⟨fs35, v36, hm37, hv38, h⟩ := h
          refine k_get (ci := 5) (C := RX4) (T := TX4) (N := 13) hx hb hts in_X4_print_X4 hown hK hR hm37 rfl 0 (by decide) hw2 (fun _ h9 => h9) hv38 dX4_print_28 ?_
          refine lv_iload_n hx hb dX4_print_31 rfl (lv_at hl 1 rfl) ?_
          refine lv_iload_n hx hb dX4_print_32 rfl (lv_at hl 2 rfl) ?_
          refine lv_iload_n hx hb dX4_print_33 rfl (lv_at hl 3 rfl) ?_
          refine k_calli0 (va_runS (As := [.ref v36, .int x1, .int x2, .int x3]) (rest := []) ⟨hx, hb, hml, hown, hts⟩ (c_X4_areAlike l G _ _ _ v36 x1 x2 x3 h) (va_cwS 4 hts gX4_print_X4_areAlike rfl rfl rfl (by decide +kernel) ⟨Nat.le_of_ble_eq_true rfl, Nat.le_of_ble_eq_true rfl⟩) (k_preS hR hS hA hE) rfl rfl hl.1 rfl (lv_room (Nat.le_of_ble_eq_true rfl)) dX4_print_34 ⟨Nat.zero_le _, Nat.zero_le _⟩) hR hS hA (fun r39 M40 H locs h hR hS => ?_)
          obtain ⟨ha, hb2⟩ := h
          refine lv_if_ne (tgt := 59) hx hb dX4_print_37 (by decide) (fun hc => ?_) (fun hc => ?_)
          · replace h := ha hc
            exact b59 _ hK7 _ _ _ _ _ _ _ _ h (lv_sub hl [0, 1, 2, 3] rfl) hR hS
          · replace h := hb2 hc
            exact b40 _ hK7 _ ih _ _ _ _ _ _ _ _ h (lv_sub hl [0, 1, 2, 3] rfl) hR hS
  have L7 : ∀ (n : Nat), ∀ (x0 : Nat) (x1 : Int32) (x2 : Int32) (M : k_M) (H : Heap) (locs : List Loc) (ls : Array Slot), wp_X4_print_L7 G post n x0 x1 x2 M → lv_has ls 5 [(0, .ref x0), (1, .int x1), (2, .int x2)] → kR G M (kA M0 s.heap.size) H → va_S (kA M0 s.heap.size) s.heap H locs → W p l e (headSpec wsX4_print ({ frames := 2, cells := 0, slots := 0, locals := 42 })).room s m ([.ref p0, .int p1] : List Value).toArray below meth c H locs 0 0 (MQ below (va_Qv post (kB G M0 s.heap.size) (kA M0 s.heap.size)) ([.ref p0, .int p1] : List Value).toArray s 0 0 (kA M0 s.heap.size)) (F0 m 7 ls []) := by
    intro n
    induction n with
    | zero =>
      intro  x0 x1 x2 M H locs ls h
      exact False.elim h
    | succ n ih =>
      intro  x0 x1 x2 M H locs ls h hl hR hS
      refine lv_iload_n hx hb dX4_print_7 rfl (lv_at hl 2 rfl) ?_
      refine lv_bipush (v := (16 : Int32)) hx hb dX4_print_8 (by decide) ?_
      obtain ⟨ha, hb2⟩ := h
      refine lv_icmp_ge (tgt := 126) hx hb dX4_print_10 (by decide) (fun hc => ?_) (fun hc => ?_)
      · replace h := ha hc
        exact k_retv hx hb hr hlocks hR hS h dX4_print_126
      · replace h := hb2 hc
        refine lv_bipush (v := (16 : Int32)) hx hb dX4_print_13 (by decide) ?_
        refine lv_istore_n (lv' := [(3, .int (16 : Int32)), (0, .ref x0), (1, .int x1), (2, .int x2)]) hx hb dX4_print_15 rfl hl (by decide) rfl (fun ls hl => ?_)
        obtain ⟨k6, h⟩ := h
        exact L16 _ ih k6 _ _ _ _ _ _ _ _ h (lv_sub hl [1, 2, 3, 0] rfl) hR hS
  have hl := lv_entry ([.ref p0, .int p1]) (n := 5) (Nat.le_of_ble_eq_true rfl)
  rw [lg_entry_eq]
  generalize (lg_sl ([.ref p0, .int p1]) ++ List.replicate (5 - (lg_sl ([.ref p0, .int p1])).length) Slot.unset).toArray = ls at hl ⊢
  have hl : lv_has ls 5 [(0, .ref p0), (1, .int p1)] := hl
  have hR0 := hR
  refine lv_aload_n hx hb dX4_print_0 rfl (lv_at hl 0 rfl) ?_
  refine lv_iconst (v := (0 : Int32)) hx hb dX4_print_1 (by decide) ?_
  obtain ⟨fs1, hm3, hk4, h⟩ := h
  replace h := h _ rfl
  refine k_put (ci := 5) (v := .int (0 : Int32)) (ty := .int) (C := RX4) (T := TX4) (N := 13) hx hb hts in_X4_print_X4 tyX4 tyX4_ok nmX4 hown hK hR hS hm3 rfl 12 (by decide) hw1 (fun _ h9 => h9) rfl (by decide +kernel) rfl rfl hk4 dX4_print_2 (fun H locs hR hS => ?_)
  refine lv_iconst (v := (0 : Int32)) hx hb dX4_print_5 (by decide) ?_
  refine lv_istore_n (lv' := [(2, .int (0 : Int32)), (0, .ref p0), (1, .int p1)]) hx hb dX4_print_6 rfl hl (by decide) rfl (fun ls hl => ?_)
  obtain ⟨k5, h⟩ := h
  exact L7 k5 _ _ _ _ _ _ _ h (lv_sub hl [1, 2, 0] rfl) hR hS

def wp_X4_freeNumber_L6 (G : k_G) (post : Int32 → k_M → Prop) : Nat → Nat → Int32 → Int32 → k_M → Prop
  | 0 => fun _ _ _ _ => False
  | n + 1 => fun x0 x1 x2 M =>
  ((x2 < 0 →
      post x1 M) ∧
      (¬ x2 < 0 →
      (∃ fs5, M x0 = some (kO 5 fs5) ∧ wp_X4_isHelper G (fun r2 M3 =>
        ((r2 = 0 →
        (wp_X4_freeNumber_L6 G post n) x0 x2 (x2 + (-1 : Int32)) M3) ∧
        (¬ r2 = 0 →
        (wp_X4_freeNumber_L6 G post n) x0 x1 (x2 + (-1 : Int32)) M3))) x0 x2 M)))
def wp_X4_freeNumber (G : k_G) (post : Int32 → k_M → Prop) (p0 : Nat) (M0 : k_M) : Prop :=
  ∃ k1, wp_X4_freeNumber_L6 G post k1 p0 (-6 : Int32) (7 : Int32) M0
set_option maxHeartbeats 4000000 in
set_option maxRecDepth 100000 in
theorem c_X4_freeNumber (l : Launch) (G : k_G) (M0 : k_M) (sz : Nat) (post : Int32 → k_M → Prop) (p0 : Nat) (h : wp_X4_freeNumber G post p0 M0) : Met l yX4_freeNumber wsX4_freeNumber ({ frames := 2, cells := 0, slots := 0, locals := 43 }) (va_Pc [.ref p0] (kPre G M0 sz)) (va_Qi post (kB G M0 sz) (kA M0 sz)) 0 0 (kA M0 sz) := by
  refine Met.ofW (cc := cX4_freeNumber) (maxL := 3) (ret := (some .int)) (by decide) rfl ?_
  intro p e s m args below meth c s₁ B hml hv
  obtain ⟨rfl, hsz, hR, hE⟩ := hv
  have hx := B.exec
  have hb := B.bytes
  have hr := B.returns
  have hts := atoms_spec (ws := wsX4_freeNumber) B.pre
  have hown : s.vm.findClass RX4 = some m.cls := findClass_of_methodNamed B.named
  have hlocks := B.notSynchronized
  subst hsz
  have hK := hE.1
  have hA : ∀ q, s.heap.size ≤ q → kA M0 s.heap.size q := kA.new
  have hS : va_S (kA M0 s.heap.size) s.heap s.heap [] := va_S.rf
  have L6 : ∀ (n : Nat), ∀ (x0 : Nat) (x1 : Int32) (x2 : Int32) (M : k_M) (H : Heap) (locs : List Loc) (ls : Array Slot), wp_X4_freeNumber_L6 G post n x0 x1 x2 M → lv_has ls 3 [(0, .ref x0), (1, .int x1), (2, .int x2)] → kR G M (kA M0 s.heap.size) H → va_S (kA M0 s.heap.size) s.heap H locs → W p l e (headSpec wsX4_freeNumber ({ frames := 2, cells := 0, slots := 0, locals := 43 })).room s m ([.ref p0] : List Value).toArray below meth c H locs 0 0 (MQ below (va_Qi post (kB G M0 s.heap.size) (kA M0 s.heap.size)) ([.ref p0] : List Value).toArray s 0 0 (kA M0 s.heap.size)) (F0 m 6 ls []) := by
    intro n
    induction n with
    | zero =>
      intro  x0 x1 x2 M H locs ls h
      exact False.elim h
    | succ n ih =>
      intro  x0 x1 x2 M H locs ls h hl hR hS
      refine lv_iload_n hx hb dX4_freeNumber_6 rfl (lv_at hl 2 rfl) ?_
      obtain ⟨ha, hb2⟩ := h
      refine lv_if_lt (tgt := 30) hx hb dX4_freeNumber_7 (by decide) (fun hc => ?_) (fun hc => ?_)
      · replace h := ha hc
        refine lv_iload_n hx hb dX4_freeNumber_30 rfl (lv_at hl 1 rfl) ?_
        exact k_reti hx hb hr hlocks rfl hR hS h dX4_freeNumber_31
      · replace h := hb2 hc
        refine lv_aload_n hx hb dX4_freeNumber_10 rfl (lv_at hl 0 rfl) ?_
        refine lv_iload_n hx hb dX4_freeNumber_11 rfl (lv_at hl 2 rfl) ?_
        obtain ⟨fs5, hm4, h⟩ := h
        refine k_calli0 (va_runV (As := [.int x2]) (rest := []) ⟨hx, hb, hml, hown, hts⟩ (c_X4_isHelper l G _ _ _ x0 x2 h) (cwV 1 hts gX4_freeNumber_X4_isHelper rfl rfl rfl (by decide +kernel) ⟨Nat.le_of_ble_eq_true rfl, Nat.le_of_ble_eq_true rfl⟩) (k_preV (q := (RX4, TX4, 13)) hm4 rfl hR hS hA hE) rfl rfl hl.1 rfl (lv_room (Nat.le_of_ble_eq_true rfl)) dX4_freeNumber_12 ⟨Nat.zero_le _, Nat.zero_le _⟩) hR hS hA (fun r2 M3 H locs h hR hS => ?_)
        obtain ⟨ha, hb2⟩ := h
        refine lv_if_eq (tgt := 22) hx hb dX4_freeNumber_15 (by decide) (fun hc => ?_) (fun hc => ?_)
        · replace h := ha hc
          refine lv_iload_n hx hb dX4_freeNumber_22 rfl (lv_at hl 2 rfl) ?_
          refine lv_istore_n (lv' := [(1, .int x2), (0, .ref x0), (2, .int x2)]) hx hb dX4_freeNumber_23 rfl hl (by decide) rfl (fun ls hl => ?_)
          refine lv_iinc (v := (x2 + (-1 : Int32))) (lv' := [(2, .int (x2 + (-1 : Int32))), (1, .int x2), (0, .ref x0)]) hx hb dX4_freeNumber_24 hl (k := 2) rfl rfl (by decide) rfl (fun ls hl => ?_)
          refine lv_goto (tgt := 6) hx hb dX4_freeNumber_27 (by decide) ?_
          exact ih _ _ _ _ _ _ _ h (lv_sub hl [2, 1, 0] rfl) hR hS
        · replace h := hb2 hc
          refine lv_iload_n hx hb dX4_freeNumber_18 rfl (lv_at hl 1 rfl) ?_
          refine lv_goto (tgt := 23) hx hb dX4_freeNumber_19 (by decide) ?_
          refine lv_istore_n (lv' := [(1, .int x1), (0, .ref x0), (2, .int x2)]) hx hb dX4_freeNumber_23 rfl hl (by decide) rfl (fun ls hl => ?_)
          refine lv_iinc (v := (x2 + (-1 : Int32))) (lv' := [(2, .int (x2 + (-1 : Int32))), (1, .int x1), (0, .ref x0)]) hx hb dX4_freeNumber_24 hl (k := 2) rfl rfl (by decide) rfl (fun ls hl => ?_)
          refine lv_goto (tgt := 6) hx hb dX4_freeNumber_27 (by decide) ?_
          exact ih _ _ _ _ _ _ _ h (lv_sub hl [2, 1, 0] rfl) hR hS
  have hl := lv_entry ([.ref p0]) (n := 3) (Nat.le_of_ble_eq_true rfl)
  rw [lg_entry_eq]
  generalize (lg_sl ([.ref p0]) ++ List.replicate (3 - (lg_sl ([.ref p0])).length) Slot.unset).toArray = ls at hl ⊢
  have hl : lv_has ls 3 [(0, .ref p0)] := hl
  have hR0 := hR
  refine lv_bipush (v := (-6 : Int32)) hx hb dX4_freeNumber_0 (by decide) ?_
  refine lv_istore_n (lv' := [(1, .int (-6 : Int32)), (0, .ref p0)]) hx hb dX4_freeNumber_2 rfl hl (by decide) rfl (fun ls hl => ?_)
  refine lv_bipush (v := (7 : Int32)) hx hb dX4_freeNumber_3 (by decide) ?_
  refine lv_istore_n (lv' := [(2, .int (7 : Int32)), (1, .int (-6 : Int32)), (0, .ref p0)]) hx hb dX4_freeNumber_5 rfl hl (by decide) rfl (fun ls hl => ?_)
  obtain ⟨k1, h⟩ := h
  exact L6 k1 _ _ _ _ _ _ _ h (lv_sub hl [2, 1, 0] rfl) hR hS
