def wp_X4_count (G : k_G) (post : Int32 → k_M → Prop) (p0 : Nat) (p1 : Int32) (M0 : k_M) : Prop :=
  (((p1).toInt = 0 →
  (∃ fs1 v2, M0 p0 = some (kO 5 fs1) ∧ fs1[0]? = some (.ref v2) ∧
    (∃ n5 f6, M0 v2 = some (kI G n5 f6) ∧ vp_in (0 : Int32) n5 ∧
    post (f6 ((0 : Int32)).toNatClampNeg) M0))) ∧
  ((p1).toInt = 1 →
  (∃ fs9 v10, M0 p0 = some (kO 5 fs9) ∧ fs9[0]? = some (.ref v10) ∧
    (∃ n13 f14, M0 v10 = some (kI G n13 f14) ∧ vp_in (1 : Int32) n13 ∧
    post (f14 ((1 : Int32)).toNatClampNeg) M0))) ∧
  ((p1).toInt = 2 →
  (∃ fs17 v18, M0 p0 = some (kO 5 fs17) ∧ fs17[0]? = some (.ref v18) ∧
    (∃ n21 f22, M0 v18 = some (kI G n21 f22) ∧ vp_in (2 : Int32) n21 ∧
    post (f22 ((2 : Int32)).toNatClampNeg) M0))) ∧
  ((p1).toInt = 3 →
  (∃ fs28, M0 p0 = some (kO 5 fs28) ∧ wp_X4_clashes G (fun r25 M26 =>
    post r25 M26) p0 M0)) ∧
  ((p1).toInt = 4 →
  (∃ fs32, M0 p0 = some (kO 5 fs32) ∧ wp_X4_allKnots G (fun r29 M30 =>
    post r29 M30) p0 M0)) ∧
  ((p1).toInt = 5 →
  (∃ fs36, M0 p0 = some (kO 5 fs36) ∧ wp_X4_leader G (fun r33 M34 =>
    post r33 M34) p0 M0)) ∧
  ((p1).toInt = 6 →
  (∃ fs37 v38, M0 p0 = some (kO 5 fs37) ∧ fs37[6]? = some (.int v38) ∧
    post v38 M0)) ∧
  ((p1).toInt = 7 →
  (∃ fs41 v42, M0 p0 = some (kO 5 fs41) ∧ fs41[2]? = some (.int v42) ∧
    post v42 M0)) ∧
  ((p1).toInt < 0 ∨ 7 < (p1).toInt →
  post (-2 : Int32) M0))
theorem in_X4_count_X4 : ∀ w ∈ wsX40, w ∈ wsX4_count := by decide +kernel
set_option maxHeartbeats 4000000 in
set_option maxRecDepth 100000 in
theorem c_X4_count (l : Launch) (G : k_G) (M0 : k_M) (sz : Nat) (post : Int32 → k_M → Prop) (p0 : Nat) (p1 : Int32) (h : wp_X4_count G post p0 p1 M0) : Met l yX4_count wsX4_count ({ frames := 4, cells := 0, slots := 0, locals := 94 }) (va_Pc [.ref p0, .int p1] (kPre G M0 sz)) (va_Qi post (kB G M0 sz) (kA M0 sz)) 0 0 (kA M0 sz) := by
  refine Met.ofW (cc := cX4_count) (maxL := 2) (ret := (some .int)) (by decide) rfl ?_
  intro p e s m args below meth c s₁ B hml hv
  obtain ⟨rfl, hsz, hR, hE⟩ := hv
  have hx := B.exec
  have hb := B.bytes
  have hr := B.returns
  have hts := atoms_spec (ws := wsX4_count) B.pre
  have hown : s.vm.findClass RX4 = some m.cls := findClass_of_methodNamed B.named
  have hlocks := B.notSynchronized
  subst hsz
  have hK := hE.1
  have hA : ∀ q, s.heap.size ≤ q → kA M0 s.heap.size q := kA.new
  have hS : va_S (kA M0 s.heap.size) s.heap s.heap [] := va_S.rf
  have hw1 := hts (.fieldLink RX4 7 "ForkedStampsModel" "state" "[I") (by decide +kernel)
  have hw2 := hts (.fieldLink RX4 157 "ForkedStampsModel" "padLength" "I") (by decide +kernel)
  have hw3 := hts (.fieldLink RX4 41 "ForkedStampsModel" "recorded" "I") (by decide +kernel)
  have hl := lv_entry ([.ref p0, .int p1]) (n := 2) (Nat.le_of_ble_eq_true rfl)
  rw [lg_entry_eq]
  generalize (lg_sl ([.ref p0, .int p1]) ++ List.replicate (2 - (lg_sl ([.ref p0, .int p1])).length) Slot.unset).toArray = ls at hl ⊢
  have hl : lv_has ls 2 [(0, .ref p0), (1, .int p1)] := hl
  have hR0 := hR
  refine lv_iload_n hx hb dX4_count_0 rfl (lv_at hl 1 rfl) ?_
  have hsw := h
  obtain ⟨hs0, hs1, hs2, hs3, hs4, hs5, hs6, hs7, hs8⟩ := hsw
  by_cases hout : (p1).toInt < 0 ∨ 7 < (p1).toInt
  · refine lv_tableOut (tgt := 94) hx hb dX4_count_1 hout (by decide) ?_
    replace h := hs8 hout
    refine lv_bipush (v := (-2 : Int32)) hx hb dX4_count_94 (by decide) ?_
    exact k_reti hx hb hr hlocks rfl hR hS h dX4_count_96
  have hin : (p1).toInt = 0 ∨ (p1).toInt = 1 ∨ (p1).toInt = 2 ∨ (p1).toInt = 3 ∨ (p1).toInt = 4 ∨ (p1).toInt = 5 ∨ (p1).toInt = 6 ∨ (p1).toInt = 7 := by omega
  rcases hin with hk | hk | hk | hk | hk | hk | hk | hk
  · refine lv_tableIn (tgt := 48) (off := 47) hx hb dX4_count_1 (by omega) (by omega) (by rw [hk]; rfl) (by decide) ?_
    replace h := hs0 hk
    refine lv_aload_n hx hb dX4_count_48 rfl (lv_at hl 0 rfl) ?_
    obtain ⟨fs1, v2, hm3, hv4, h⟩ := h
    refine k_get (ci := 5) (C := RX4) (T := TX4) (N := 13) hx hb hts in_X4_count_X4 hown hK hR hm3 rfl 0 (by decide) hw1 (fun _ h9 => h9) hv4 dX4_count_49 ?_
    refine lv_iconst (v := (0 : Int32)) hx hb dX4_count_52 (by decide) ?_
    obtain ⟨n5, f6, hm7, hv8, h⟩ := h
    refine k_iald hx hb hK hR hm7 hv8 dX4_count_53 ?_
    exact k_reti hx hb hr hlocks rfl hR hS h dX4_count_54
  · refine lv_tableIn (tgt := 55) (off := 54) hx hb dX4_count_1 (by omega) (by omega) (by rw [hk]; rfl) (by decide) ?_
    replace h := hs1 hk
    refine lv_aload_n hx hb dX4_count_55 rfl (lv_at hl 0 rfl) ?_
    obtain ⟨fs9, v10, hm11, hv12, h⟩ := h
    refine k_get (ci := 5) (C := RX4) (T := TX4) (N := 13) hx hb hts in_X4_count_X4 hown hK hR hm11 rfl 0 (by decide) hw1 (fun _ h9 => h9) hv12 dX4_count_56 ?_
    refine lv_iconst (v := (1 : Int32)) hx hb dX4_count_59 (by decide) ?_
    obtain ⟨n13, f14, hm15, hv16, h⟩ := h
    refine k_iald hx hb hK hR hm15 hv16 dX4_count_60 ?_
    exact k_reti hx hb hr hlocks rfl hR hS h dX4_count_61
  · refine lv_tableIn (tgt := 62) (off := 61) hx hb dX4_count_1 (by omega) (by omega) (by rw [hk]; rfl) (by decide) ?_
    replace h := hs2 hk
    refine lv_aload_n hx hb dX4_count_62 rfl (lv_at hl 0 rfl) ?_
    obtain ⟨fs17, v18, hm19, hv20, h⟩ := h
    refine k_get (ci := 5) (C := RX4) (T := TX4) (N := 13) hx hb hts in_X4_count_X4 hown hK hR hm19 rfl 0 (by decide) hw1 (fun _ h9 => h9) hv20 dX4_count_63 ?_
    refine lv_iconst (v := (2 : Int32)) hx hb dX4_count_66 (by decide) ?_
    obtain ⟨n21, f22, hm23, hv24, h⟩ := h
    refine k_iald hx hb hK hR hm23 hv24 dX4_count_67 ?_
    exact k_reti hx hb hr hlocks rfl hR hS h dX4_count_68
  · refine lv_tableIn (tgt := 69) (off := 68) hx hb dX4_count_1 (by omega) (by omega) (by rw [hk]; rfl) (by decide) ?_
    replace h := hs3 hk
    refine lv_aload_n hx hb dX4_count_69 rfl (lv_at hl 0 rfl) ?_
    obtain ⟨fs28, hm27, h⟩ := h
    refine k_calli0 (va_runV (As := []) (rest := []) ⟨hx, hb, hml, hown, hts⟩ (c_X4_clashes l G _ _ _ p0 h) (cwV 0 hts gX4_count_X4_clashes rfl rfl rfl (by decide +kernel) ⟨Nat.le_of_ble_eq_true rfl, Nat.le_of_ble_eq_true rfl⟩) (k_preV (q := (RX4, TX4, 13)) hm27 rfl hR hS hA hE) rfl rfl hl.1 rfl (lv_room (Nat.le_of_ble_eq_true rfl)) dX4_count_70 ⟨Nat.zero_le _, Nat.zero_le _⟩) hR hS hA (fun r25 M26 H locs h hR hS => ?_)
    exact k_reti hx hb hr hlocks rfl hR hS h dX4_count_73
  · refine lv_tableIn (tgt := 74) (off := 73) hx hb dX4_count_1 (by omega) (by omega) (by rw [hk]; rfl) (by decide) ?_
    replace h := hs4 hk
    refine lv_aload_n hx hb dX4_count_74 rfl (lv_at hl 0 rfl) ?_
    obtain ⟨fs32, hm31, h⟩ := h
    refine k_calli0 (va_runV (As := []) (rest := []) ⟨hx, hb, hml, hown, hts⟩ (c_X4_allKnots l G _ _ _ p0 h) (cwV 0 hts gX4_count_X4_allKnots rfl rfl rfl (by decide +kernel) ⟨Nat.le_of_ble_eq_true rfl, Nat.le_of_ble_eq_true rfl⟩) (k_preV (q := (RX4, TX4, 13)) hm31 rfl hR hS hA hE) rfl rfl hl.1 rfl (lv_room (Nat.le_of_ble_eq_true rfl)) dX4_count_75 ⟨Nat.zero_le _, Nat.zero_le _⟩) hR hS hA (fun r29 M30 H locs h hR hS => ?_)
    exact k_reti hx hb hr hlocks rfl hR hS h dX4_count_78
  · refine lv_tableIn (tgt := 79) (off := 78) hx hb dX4_count_1 (by omega) (by omega) (by rw [hk]; rfl) (by decide) ?_
    replace h := hs5 hk
    refine lv_aload_n hx hb dX4_count_79 rfl (lv_at hl 0 rfl) ?_
    obtain ⟨fs36, hm35, h⟩ := h
    refine k_calli0 (va_runV (As := []) (rest := []) ⟨hx, hb, hml, hown, hts⟩ (c_X4_leader l G _ _ _ p0 h) (cwV 0 hts gX4_count_X4_leader rfl rfl rfl (by decide +kernel) ⟨Nat.le_of_ble_eq_true rfl, Nat.le_of_ble_eq_true rfl⟩) (k_preV (q := (RX4, TX4, 13)) hm35 rfl hR hS hA hE) rfl rfl hl.1 rfl (lv_room (Nat.le_of_ble_eq_true rfl)) dX4_count_80 ⟨Nat.zero_le _, Nat.zero_le _⟩) hR hS hA (fun r33 M34 H locs h hR hS => ?_)
    exact k_reti hx hb hr hlocks rfl hR hS h dX4_count_83
  · refine lv_tableIn (tgt := 84) (off := 83) hx hb dX4_count_1 (by omega) (by omega) (by rw [hk]; rfl) (by decide) ?_
    replace h := hs6 hk
    refine lv_aload_n hx hb dX4_count_84 rfl (lv_at hl 0 rfl) ?_
    obtain ⟨fs37, v38, hm39, hv40, h⟩ := h
    refine k_get (ci := 5) (C := RX4) (T := TX4) (N := 13) hx hb hts in_X4_count_X4 hown hK hR hm39 rfl 6 (by decide) hw2 (fun _ h9 => h9) hv40 dX4_count_85 ?_
    exact k_reti hx hb hr hlocks rfl hR hS h dX4_count_88
  · refine lv_tableIn (tgt := 89) (off := 88) hx hb dX4_count_1 (by omega) (by omega) (by rw [hk]; rfl) (by decide) ?_
    replace h := hs7 hk
    refine lv_aload_n hx hb dX4_count_89 rfl (lv_at hl 0 rfl) ?_
    obtain ⟨fs41, v42, hm43, hv44, h⟩ := h
    refine k_get (ci := 5) (C := RX4) (T := TX4) (N := 13) hx hb hts in_X4_count_X4 hown hK hR hm43 rfl 2 (by decide) hw3 (fun _ h9 => h9) hv44 dX4_count_90 ?_
    exact k_reti hx hb hr hlocks rfl hR hS h dX4_count_93

def wp_X4_whose (G : k_G) (post : Int32 → k_M → Prop) (p0 : Nat) (p1 : Int32) (M0 : k_M) : Prop :=
  (∃ fs1 v2, M0 p0 = some (kO 5 fs1) ∧ fs1[0]? = some (.ref v2) ∧
  (∃ n5 f6, M0 v2 = some (kI G n5 f6) ∧ vp_in (2 : Int32) n5 ∧
  wp_X4_within G (fun r9 M10 =>
  ((r9 = 0 →
  post (-1 : Int32) M10) ∧
  (¬ r9 = 0 →
  (∃ fs12 v13, M10 p0 = some (kO 5 fs12) ∧ fs12[0]? = some (.ref v13) ∧
    (∃ n16 f17, M10 v13 = some (kI G n16 f17) ∧ vp_in ((3 : Int32) + p1) n16 ∧
    post (f17 (((3 : Int32) + p1)).toNatClampNeg) M10))))) p1 (0 : Int32) ((f6 ((2 : Int32)).toNatClampNeg) - (1 : Int32)) M0))
theorem in_X4_whose_X4 : ∀ w ∈ wsX40, w ∈ wsX4_whose := by decide +kernel
set_option maxHeartbeats 4000000 in
set_option maxRecDepth 100000 in
theorem c_X4_whose (l : Launch) (G : k_G) (M0 : k_M) (sz : Nat) (post : Int32 → k_M → Prop) (p0 : Nat) (p1 : Int32) (h : wp_X4_whose G post p0 p1 M0) : Met l yX4_whose wsX4_whose ({ frames := 1, cells := 0, slots := 0, locals := 22 }) (va_Pc [.ref p0, .int p1] (kPre G M0 sz)) (va_Qi post (kB G M0 sz) (kA M0 sz)) 0 0 (kA M0 sz) := by
  refine Met.ofW (cc := cX4_whose) (maxL := 2) (ret := (some .int)) (by decide) rfl ?_
  intro p e s m args below meth c s₁ B hml hv
  obtain ⟨rfl, hsz, hR, hE⟩ := hv
  have hx := B.exec
  have hb := B.bytes
  have hr := B.returns
  have hts := atoms_spec (ws := wsX4_whose) B.pre
  have hown : s.vm.findClass RX4 = some m.cls := findClass_of_methodNamed B.named
  have hlocks := B.notSynchronized
  subst hsz
  have hK := hE.1
  have hA : ∀ q, s.heap.size ≤ q → kA M0 s.heap.size q := kA.new
  have hS : va_S (kA M0 s.heap.size) s.heap s.heap [] := va_S.rf
  have hw1 := hts (.fieldLink RX4 7 "ForkedStampsModel" "state" "[I") (by decide +kernel)
  have hl := lv_entry ([.ref p0, .int p1]) (n := 2) (Nat.le_of_ble_eq_true rfl)
  rw [lg_entry_eq]
  generalize (lg_sl ([.ref p0, .int p1]) ++ List.replicate (2 - (lg_sl ([.ref p0, .int p1])).length) Slot.unset).toArray = ls at hl ⊢
  have hl : lv_has ls 2 [(0, .ref p0), (1, .int p1)] := hl
  have hR0 := hR
  refine lv_iload_n hx hb dX4_whose_0 rfl (lv_at hl 1 rfl) ?_
  refine lv_iconst (v := (0 : Int32)) hx hb dX4_whose_1 (by decide) ?_
  refine lv_aload_n hx hb dX4_whose_2 rfl (lv_at hl 0 rfl) ?_
  obtain ⟨fs1, v2, hm3, hv4, h⟩ := h
  refine k_get (ci := 5) (C := RX4) (T := TX4) (N := 13) hx hb hts in_X4_whose_X4 hown hK hR hm3 rfl 0 (by decide) hw1 (fun _ h9 => h9) hv4 dX4_whose_3 ?_
  refine lv_iconst (v := (2 : Int32)) hx hb dX4_whose_6 (by decide) ?_
  obtain ⟨n5, f6, hm7, hv8, h⟩ := h
  refine k_iald hx hb hK hR hm7 hv8 dX4_whose_7 ?_
  refine lv_iconst (v := (1 : Int32)) hx hb dX4_whose_8 (by decide) ?_
  refine lv_isub hx hb dX4_whose_9 ?_
  refine k_calli0 (va_runS (As := [.int p1, .int (0 : Int32), .int ((f6 ((2 : Int32)).toNatClampNeg) - (1 : Int32))]) (rest := []) ⟨hx, hb, hml, hown, hts⟩ (c_X4_within l G _ _ _ p1 (0 : Int32) ((f6 ((2 : Int32)).toNatClampNeg) - (1 : Int32)) h) (va_cwS 3 hts gX4_whose_X4_within rfl rfl rfl (by decide +kernel) ⟨Nat.le_of_ble_eq_true rfl, Nat.le_of_ble_eq_true rfl⟩) (k_preS hR hS hA hE) rfl rfl hl.1 rfl (lv_room (Nat.le_of_ble_eq_true rfl)) dX4_whose_10 ⟨Nat.zero_le _, Nat.zero_le _⟩) hR hS hA (fun r9 M10 H locs h hR hS => ?_)
  obtain ⟨ha, hb2⟩ := h
  refine lv_if_eq (tgt := 27) hx hb dX4_whose_13 (by decide) (fun hc => ?_) (fun hc => ?_)
  · replace h := ha hc
    refine lv_iconst (v := (-1 : Int32)) hx hb dX4_whose_27 (by decide) ?_
    exact k_reti hx hb hr hlocks rfl hR hS h dX4_whose_28
  · replace h := hb2 hc
    refine lv_aload_n hx hb dX4_whose_16 rfl (lv_at hl 0 rfl) ?_
    obtain ⟨fs12, v13, hm14, hv15, h⟩ := h
    refine k_get (ci := 5) (C := RX4) (T := TX4) (N := 13) hx hb hts in_X4_whose_X4 hown hK hR hm14 rfl 0 (by decide) hw1 (fun _ h9 => h9) hv15 dX4_whose_17 ?_
    refine lv_iconst (v := (3 : Int32)) hx hb dX4_whose_20 (by decide) ?_
    refine lv_iload_n hx hb dX4_whose_21 rfl (lv_at hl 1 rfl) ?_
    refine lv_iadd hx hb dX4_whose_22 ?_
    obtain ⟨n16, f17, hm18, hv19, h⟩ := h
    refine k_iald hx hb hK hR hm18 hv19 dX4_whose_23 ?_
    refine lv_goto (tgt := 28) hx hb dX4_whose_24 (by decide) ?_
    exact k_reti hx hb hr hlocks rfl hR hS h dX4_whose_28

def wp_X4_whyNoOrder (G : k_G) (post : Int32 → k_M → Prop) (p0 : Nat) (p1 : Int32) (p2 : Int32) (p3 : Int32) (p4 : Int32) (M0 : k_M) : Prop :=
  wp_X4_within G (fun r1 M2 =>
  ((r1 = 0 →
  post (-2 : Int32) M2) ∧
  (¬ r1 = 0 →
  wp_X4_within G (fun r4 M5 =>
    ((¬ r4 = 0 →
    (∃ fs10, M5 p0 = some (kO 5 fs10) ∧ wp_X4_isThere G (fun r7 M8 =>
      ((r7 = 0 →
      post (-1 : Int32) M8) ∧
      (¬ r7 = 0 →
      (∃ fs14, M8 p0 = some (kO 5 fs14) ∧ wp_X4_isThere G (fun r11 M12 =>
        ((r11 = 0 →
        post (-1 : Int32) M12) ∧
        (¬ r11 = 0 →
        post (0 : Int32) M12))) p0 p3 p4 M8)))) p0 p1 p2 M5)) ∧
    (r4 = 0 →
    post (-2 : Int32) M5))) p3 (0 : Int32) (1 : Int32) M2))) p1 (0 : Int32) (1 : Int32) M0
set_option maxHeartbeats 4000000 in
set_option maxRecDepth 100000 in
theorem c_X4_whyNoOrder (l : Launch) (G : k_G) (M0 : k_M) (sz : Nat) (post : Int32 → k_M → Prop) (p0 : Nat) (p1 : Int32) (p2 : Int32) (p3 : Int32) (p4 : Int32) (h : wp_X4_whyNoOrder G post p0 p1 p2 p3 p4 M0) : Met l yX4_whyNoOrder wsX4_whyNoOrder ({ frames := 3, cells := 0, slots := 0, locals := 65 }) (va_Pc [.ref p0, .int p1, .int p2, .int p3, .int p4] (kPre G M0 sz)) (va_Qi post (kB G M0 sz) (kA M0 sz)) 0 0 (kA M0 sz) := by
  refine Met.ofW (cc := cX4_whyNoOrder) (maxL := 5) (ret := (some .int)) (by decide) rfl ?_
  intro p e s m args below meth c s₁ B hml hv
  obtain ⟨rfl, hsz, hR, hE⟩ := hv
  have hx := B.exec
  have hb := B.bytes
  have hr := B.returns
  have hts := atoms_spec (ws := wsX4_whyNoOrder) B.pre
  have hown : s.vm.findClass RX4 = some m.cls := findClass_of_methodNamed B.named
  have hlocks := B.notSynchronized
  subst hsz
  have hK := hE.1
  have hA : ∀ q, s.heap.size ≤ q → kA M0 s.heap.size q := kA.new
  have hS : va_S (kA M0 s.heap.size) s.heap s.heap [] := va_S.rf
  have hl := lv_entry ([.ref p0, .int p1, .int p2, .int p3, .int p4]) (n := 5) (Nat.le_of_ble_eq_true rfl)
  rw [lg_entry_eq]
  generalize (lg_sl ([.ref p0, .int p1, .int p2, .int p3, .int p4]) ++ List.replicate (5 - (lg_sl ([.ref p0, .int p1, .int p2, .int p3, .int p4])).length) Slot.unset).toArray = ls at hl ⊢
  have hl : lv_has ls 5 [(0, .ref p0), (1, .int p1), (2, .int p2), (3, .int p3), (4, .int p4)] := hl
  have hR0 := hR
  refine lv_iload_n hx hb dX4_whyNoOrder_0 rfl (lv_at hl 1 rfl) ?_
  refine lv_iconst (v := (0 : Int32)) hx hb dX4_whyNoOrder_1 (by decide) ?_
  refine lv_iconst (v := (1 : Int32)) hx hb dX4_whyNoOrder_2 (by decide) ?_
  refine k_calli0 (va_runS (As := [.int p1, .int (0 : Int32), .int (1 : Int32)]) (rest := []) ⟨hx, hb, hml, hown, hts⟩ (c_X4_within l G _ _ _ p1 (0 : Int32) (1 : Int32) h) (va_cwS 3 hts gX4_whyNoOrder_X4_within rfl rfl rfl (by decide +kernel) ⟨Nat.le_of_ble_eq_true rfl, Nat.le_of_ble_eq_true rfl⟩) (k_preS hR hS hA hE) rfl rfl hl.1 rfl (lv_room (Nat.le_of_ble_eq_true rfl)) dX4_whyNoOrder_3 ⟨Nat.zero_le _, Nat.zero_le _⟩) hR hS hA (fun r1 M2 H locs h hR hS => ?_)
  obtain ⟨ha, hb2⟩ := h
  refine lv_if_eq (tgt := 18) hx hb dX4_whyNoOrder_6 (by decide) (fun hc => ?_) (fun hc => ?_)
  · replace h := ha hc
    refine lv_bipush (v := (-2 : Int32)) hx hb dX4_whyNoOrder_18 (by decide) ?_
    exact k_reti hx hb hr hlocks rfl hR hS h dX4_whyNoOrder_20
  · replace h := hb2 hc
    refine lv_iload_n hx hb dX4_whyNoOrder_9 rfl (lv_at hl 3 rfl) ?_
    refine lv_iconst (v := (0 : Int32)) hx hb dX4_whyNoOrder_10 (by decide) ?_
    refine lv_iconst (v := (1 : Int32)) hx hb dX4_whyNoOrder_11 (by decide) ?_
    refine k_calli0 (va_runS (As := [.int p3, .int (0 : Int32), .int (1 : Int32)]) (rest := []) ⟨hx, hb, hml, hown, hts⟩ (c_X4_within l G _ _ _ p3 (0 : Int32) (1 : Int32) h) (va_cwS 3 hts gX4_whyNoOrder_X4_within rfl rfl rfl (by decide +kernel) ⟨Nat.le_of_ble_eq_true rfl, Nat.le_of_ble_eq_true rfl⟩) (k_preS hR hS hA hE) rfl rfl hl.1 rfl (lv_room (Nat.le_of_ble_eq_true rfl)) dX4_whyNoOrder_12 ⟨Nat.zero_le _, Nat.zero_le _⟩) hR hS hA (fun r4 M5 H locs h hR hS => ?_)
    obtain ⟨ha, hb2⟩ := h
    refine lv_if_ne (tgt := 21) hx hb dX4_whyNoOrder_15 (by decide) (fun hc => ?_) (fun hc => ?_)
    · replace h := ha hc
      refine lv_aload_n hx hb dX4_whyNoOrder_21 rfl (lv_at hl 0 rfl) ?_
      refine lv_iload_n hx hb dX4_whyNoOrder_22 rfl (lv_at hl 1 rfl) ?_
      refine lv_iload_n hx hb dX4_whyNoOrder_23 rfl (lv_at hl 2 rfl) ?_
      obtain ⟨fs10, hm9, h⟩ := h
      refine k_calli0 (va_runV (As := [.int p1, .int p2]) (rest := []) ⟨hx, hb, hml, hown, hts⟩ (c_X4_isThere l G _ _ _ p0 p1 p2 h) (cwV 2 hts gX4_whyNoOrder_X4_isThere rfl rfl rfl (by decide +kernel) ⟨Nat.le_of_ble_eq_true rfl, Nat.le_of_ble_eq_true rfl⟩) (k_preV (q := (RX4, TX4, 13)) hm9 rfl hR hS hA hE) rfl rfl hl.1 rfl (lv_room (Nat.le_of_ble_eq_true rfl)) dX4_whyNoOrder_24 ⟨Nat.zero_le _, Nat.zero_le _⟩) hR hS hA (fun r7 M8 H locs h hR hS => ?_)
      obtain ⟨ha, hb2⟩ := h
      refine lv_if_eq (tgt := 44) hx hb dX4_whyNoOrder_27 (by decide) (fun hc => ?_) (fun hc => ?_)
      · replace h := ha hc
        refine lv_iconst (v := (-1 : Int32)) hx hb dX4_whyNoOrder_44 (by decide) ?_
        exact k_reti hx hb hr hlocks rfl hR hS h dX4_whyNoOrder_45
      · replace h := hb2 hc
        refine lv_aload_n hx hb dX4_whyNoOrder_30 rfl (lv_at hl 0 rfl) ?_
        refine lv_iload_n hx hb dX4_whyNoOrder_31 rfl (lv_at hl 3 rfl) ?_
        refine lv_iload hx hb dX4_whyNoOrder_32 (lv_at hl 4 rfl) ?_
        obtain ⟨fs14, hm13, h⟩ := h
        refine k_calli0 (va_runV (As := [.int p3, .int p4]) (rest := []) ⟨hx, hb, hml, hown, hts⟩ (c_X4_isThere l G _ _ _ p0 p3 p4 h) (cwV 2 hts gX4_whyNoOrder_X4_isThere rfl rfl rfl (by decide +kernel) ⟨Nat.le_of_ble_eq_true rfl, Nat.le_of_ble_eq_true rfl⟩) (k_preV (q := (RX4, TX4, 13)) hm13 rfl hR hS hA hE) rfl rfl hl.1 rfl (lv_room (Nat.le_of_ble_eq_true rfl)) dX4_whyNoOrder_34 ⟨Nat.zero_le _, Nat.zero_le _⟩) hR hS hA (fun r11 M12 H locs h hR hS => ?_)
        obtain ⟨ha, hb2⟩ := h
        refine lv_if_eq (tgt := 44) hx hb dX4_whyNoOrder_37 (by decide) (fun hc => ?_) (fun hc => ?_)
        · replace h := ha hc
          refine lv_iconst (v := (-1 : Int32)) hx hb dX4_whyNoOrder_44 (by decide) ?_
          exact k_reti hx hb hr hlocks rfl hR hS h dX4_whyNoOrder_45
        · replace h := hb2 hc
          refine lv_iconst (v := (0 : Int32)) hx hb dX4_whyNoOrder_40 (by decide) ?_
          refine lv_goto (tgt := 45) hx hb dX4_whyNoOrder_41 (by decide) ?_
          exact k_reti hx hb hr hlocks rfl hR hS h dX4_whyNoOrder_45
    · replace h := hb2 hc
      refine lv_bipush (v := (-2 : Int32)) hx hb dX4_whyNoOrder_18 (by decide) ?_
      exact k_reti hx hb hr hlocks rfl hR hS h dX4_whyNoOrder_20

def wp_X4_order (G : k_G) (post : Int32 → k_M → Prop) (p0 : Nat) (p1 : Int32) (p2 : Int32) (p3 : Int32) (p4 : Int32) (M0 : k_M) : Prop :=
  (∃ fs4, M0 p0 = some (kO 5 fs4) ∧ wp_X4_whyNoOrder G (fun r1 M2 =>
  ((0 ≤ r1 →
  (∃ fs5 v6, M2 p0 = some (kO 5 fs5) ∧ fs5[0]? = some (.ref v6) ∧
    wp_X4_placeOf G (fun r9 M10 =>
    (∃ fs12 v13, M10 p0 = some (kO 5 fs12) ∧ fs12[0]? = some (.ref v13) ∧
    wp_X4_placeOf G (fun r16 M17 =>
    wp_X4_orderOf G (fun r19 M20 =>
    post r19 M20) v6 r9 v13 r16 M17) p3 p4 M10)) p1 p2 M2)) ∧
  (¬ 0 ≤ r1 →
  post r1 M2))) p0 p1 p2 p3 p4 M0)
theorem in_X4_order_X4 : ∀ w ∈ wsX40, w ∈ wsX4_order := by decide +kernel
set_option maxHeartbeats 4000000 in
set_option maxRecDepth 100000 in
theorem c_X4_order (l : Launch) (G : k_G) (M0 : k_M) (sz : Nat) (post : Int32 → k_M → Prop) (p0 : Nat) (p1 : Int32) (p2 : Int32) (p3 : Int32) (p4 : Int32) (h : wp_X4_order G post p0 p1 p2 p3 p4 M0) : Met l yX4_order wsX4_order ({ frames := 4, cells := 0, slots := 0, locals := 89 }) (va_Pc [.ref p0, .int p1, .int p2, .int p3, .int p4] (kPre G M0 sz)) (va_Qi post (kB G M0 sz) (kA M0 sz)) 0 0 (kA M0 sz) := by
  refine Met.ofW (cc := cX4_order) (maxL := 6) (ret := (some .int)) (by decide) rfl ?_
  intro p e s m args below meth c s₁ B hml hv
  obtain ⟨rfl, hsz, hR, hE⟩ := hv
  have hx := B.exec
  have hb := B.bytes
  have hr := B.returns
  have hts := atoms_spec (ws := wsX4_order) B.pre
  have hown : s.vm.findClass RX4 = some m.cls := findClass_of_methodNamed B.named
  have hlocks := B.notSynchronized
  subst hsz
  have hK := hE.1
  have hA : ∀ q, s.heap.size ≤ q → kA M0 s.heap.size q := kA.new
  have hS : va_S (kA M0 s.heap.size) s.heap s.heap [] := va_S.rf
  have hw1 := hts (.fieldLink RX4 7 "ForkedStampsModel" "state" "[I") (by decide +kernel)
  have hl := lv_entry ([.ref p0, .int p1, .int p2, .int p3, .int p4]) (n := 6) (Nat.le_of_ble_eq_true rfl)
  rw [lg_entry_eq]
  generalize (lg_sl ([.ref p0, .int p1, .int p2, .int p3, .int p4]) ++ List.replicate (6 - (lg_sl ([.ref p0, .int p1, .int p2, .int p3, .int p4])).length) Slot.unset).toArray = ls at hl ⊢
  have hl : lv_has ls 6 [(0, .ref p0), (1, .int p1), (2, .int p2), (3, .int p3), (4, .int p4)] := hl
  have hR0 := hR
  refine lv_aload_n hx hb dX4_order_0 rfl (lv_at hl 0 rfl) ?_
  refine lv_iload_n hx hb dX4_order_1 rfl (lv_at hl 1 rfl) ?_
  refine lv_iload_n hx hb dX4_order_2 rfl (lv_at hl 2 rfl) ?_
  refine lv_iload_n hx hb dX4_order_3 rfl (lv_at hl 3 rfl) ?_
  refine lv_iload hx hb dX4_order_4 (lv_at hl 4 rfl) ?_
  obtain ⟨fs4, hm3, h⟩ := h
  refine k_calli0 (va_runV (As := [.int p1, .int p2, .int p3, .int p4]) (rest := []) ⟨hx, hb, hml, hown, hts⟩ (c_X4_whyNoOrder l G _ _ _ p0 p1 p2 p3 p4 h) (cwV 4 hts gX4_order_X4_whyNoOrder rfl rfl rfl (by decide +kernel) ⟨Nat.le_of_ble_eq_true rfl, Nat.le_of_ble_eq_true rfl⟩) (k_preV (q := (RX4, TX4, 13)) hm3 rfl hR hS hA hE) rfl rfl hl.1 rfl (lv_room (Nat.le_of_ble_eq_true rfl)) dX4_order_6 ⟨Nat.zero_le _, Nat.zero_le _⟩) hR hS hA (fun r1 M2 H locs h hR hS => ?_)
  refine lv_istore (lv' := [(5, .int r1), (0, .ref p0), (1, .int p1), (2, .int p2), (3, .int p3), (4, .int p4)]) hx hb dX4_order_9 hl (by decide) rfl (fun ls hl => ?_)
  refine lv_iload hx hb dX4_order_11 (lv_at hl 0 rfl) ?_
  obtain ⟨ha, hb2⟩ := h
  refine lv_if_ge (tgt := 19) hx hb dX4_order_13 (by decide) (fun hc => ?_) (fun hc => ?_)
  · replace h := ha hc
    refine lv_aload_n hx hb dX4_order_19 rfl (lv_at hl 1 rfl) ?_
    obtain ⟨fs5, v6, hm7, hv8, h⟩ := h
    refine k_get (ci := 5) (C := RX4) (T := TX4) (N := 13) hx hb hts in_X4_order_X4 hown hK hR hm7 rfl 0 (by decide) hw1 (fun _ h9 => h9) hv8 dX4_order_20 ?_
    refine lv_iload_n hx hb dX4_order_23 rfl (lv_at hl 2 rfl) ?_
    refine lv_iload_n hx hb dX4_order_24 rfl (lv_at hl 3 rfl) ?_
    refine k_calli0 (va_runS (As := [.int p1, .int p2]) (rest := [.ref v6]) ⟨hx, hb, hml, hown, hts⟩ (c_X4_placeOf l G _ _ _ p1 p2 h) (va_cwS 2 hts gX4_order_X4_placeOf rfl rfl rfl (by decide +kernel) ⟨Nat.le_of_ble_eq_true rfl, Nat.le_of_ble_eq_true rfl⟩) (k_preS hR hS hA hE) rfl rfl hl.1 rfl (lv_room (Nat.le_of_ble_eq_true rfl)) dX4_order_25 ⟨Nat.zero_le _, Nat.zero_le _⟩) hR hS hA (fun r9 M10 H locs h hR hS => ?_)
    refine lv_aload_n hx hb dX4_order_28 rfl (lv_at hl 1 rfl) ?_
    obtain ⟨fs12, v13, hm14, hv15, h⟩ := h
    refine k_get (ci := 5) (C := RX4) (T := TX4) (N := 13) hx hb hts in_X4_order_X4 hown hK hR hm14 rfl 0 (by decide) hw1 (fun _ h9 => h9) hv15 dX4_order_29 ?_
    refine lv_iload_n hx hb dX4_order_32 rfl (lv_at hl 4 rfl) ?_
    refine lv_iload hx hb dX4_order_33 (lv_at hl 5 rfl) ?_
    refine k_calli0 (va_runS (As := [.int p3, .int p4]) (rest := [.ref v13, .int r9, .ref v6]) ⟨hx, hb, hml, hown, hts⟩ (c_X4_placeOf l G _ _ _ p3 p4 h) (va_cwS 2 hts gX4_order_X4_placeOf rfl rfl rfl (by decide +kernel) ⟨Nat.le_of_ble_eq_true rfl, Nat.le_of_ble_eq_true rfl⟩) (k_preS hR hS hA hE) rfl rfl hl.1 rfl (lv_room (Nat.le_of_ble_eq_true rfl)) dX4_order_35 ⟨Nat.zero_le _, Nat.zero_le _⟩) hR hS hA (fun r16 M17 H locs h hR hS => ?_)
    refine k_calli0 (va_runS (As := [.ref v6, .int r9, .ref v13, .int r16]) (rest := []) ⟨hx, hb, hml, hown, hts⟩ (c_X4_orderOf l G _ _ _ v6 r9 v13 r16 h) (va_cwS 4 hts gX4_order_X4_orderOf rfl rfl rfl (by decide +kernel) ⟨Nat.le_of_ble_eq_true rfl, Nat.le_of_ble_eq_true rfl⟩) (k_preS hR hS hA hE) rfl rfl hl.1 rfl (lv_room (Nat.le_of_ble_eq_true rfl)) dX4_order_38 ⟨Nat.zero_le _, Nat.zero_le _⟩) hR hS hA (fun r19 M20 H locs h hR hS => ?_)
    exact k_reti hx hb hr hlocks rfl hR hS h dX4_order_41
  · replace h := hb2 hc
    refine lv_iload hx hb dX4_order_16 (lv_at hl 0 rfl) ?_
    exact k_reti hx hb hr hlocks rfl hR hS h dX4_order_18

def wp_X4_more_L41 (G : k_G) (post : Int32 → k_M → Prop) : Nat → Nat → Int32 → Int32 → Int32 → Int32 → k_M → Prop
  | 0 => fun _ _ _ _ _ _ => False
  | n + 1 => fun x0 x6 x7 x8 x9 M =>
  (((21 : Int32) ≤ x9 →
      post x8 M) ∧
      (¬ (21 : Int32) ≤ x9 →
      (∃ fs12 v13, M x0 = some (kO 5 fs12) ∧ fs12[0]? = some (.ref v13) ∧
        (∃ n16 f17, M v13 = some (kI G n16 f17) ∧ vp_in (x6 + x9) n16 ∧
        (∃ fs20 v21, M x0 = some (kO 5 fs20) ∧ fs20[0]? = some (.ref v21) ∧
        (∃ n24 f25, M v21 = some (kI G n24 f25) ∧ vp_in (x7 + x9) n24 ∧
        wp_X4_bits G (fun r28 M29 =>
        (wp_X4_more_L41 G post n) x0 x6 x7 (x8 + r28) (x9 + (1 : Int32)) M29) ((f17 ((x6 + x9)).toNatClampNeg) &&& ((f25 ((x7 + x9)).toNatClampNeg) ^^^ (-1 : Int32))) M))))))
def wp_X4_more (G : k_G) (post : Int32 → k_M → Prop) (p0 : Nat) (p1 : Int32) (p2 : Int32) (p3 : Int32) (p4 : Int32) (M0 : k_M) : Prop :=
  (∃ fs4, M0 p0 = some (kO 5 fs4) ∧ wp_X4_whyNoOrder G (fun r1 M2 =>
  ((0 ≤ r1 →
  wp_X4_placeOf G (fun r5 M6 =>
    wp_X4_placeOf G (fun r8 M9 =>
    ∃ k11, wp_X4_more_L41 G post k11 p0 r5 r8 (0 : Int32) (17 : Int32) M9) p3 p4 M6) p1 p2 M2) ∧
  (¬ 0 ≤ r1 →
  post r1 M2))) p0 p1 p2 p3 p4 M0)
theorem in_X4_more_X4 : ∀ w ∈ wsX40, w ∈ wsX4_more := by decide +kernel
set_option maxHeartbeats 4000000 in
set_option maxRecDepth 100000 in
theorem c_X4_more (l : Launch) (G : k_G) (M0 : k_M) (sz : Nat) (post : Int32 → k_M → Prop) (p0 : Nat) (p1 : Int32) (p2 : Int32) (p3 : Int32) (p4 : Int32) (h : wp_X4_more G post p0 p1 p2 p3 p4 M0) : Met l yX4_more wsX4_more ({ frames := 4, cells := 0, slots := 0, locals := 89 }) (va_Pc [.ref p0, .int p1, .int p2, .int p3, .int p4] (kPre G M0 sz)) (va_Qi post (kB G M0 sz) (kA M0 sz)) 0 0 (kA M0 sz) := by
  refine Met.ofW (cc := cX4_more) (maxL := 10) (ret := (some .int)) (by decide) rfl ?_
  intro p e s m args below meth c s₁ B hml hv
  obtain ⟨rfl, hsz, hR, hE⟩ := hv
  have hx := B.exec
  have hb := B.bytes
  have hr := B.returns
  have hts := atoms_spec (ws := wsX4_more) B.pre
  have hown : s.vm.findClass RX4 = some m.cls := findClass_of_methodNamed B.named
  have hlocks := B.notSynchronized
  subst hsz
  have hK := hE.1
  have hA : ∀ q, s.heap.size ≤ q → kA M0 s.heap.size q := kA.new
  have hS : va_S (kA M0 s.heap.size) s.heap s.heap [] := va_S.rf
  have hw1 := hts (.fieldLink RX4 7 "ForkedStampsModel" "state" "[I") (by decide +kernel)
  have L41 : ∀ (n : Nat), ∀ (x0 : Nat) (x6 : Int32) (x7 : Int32) (x8 : Int32) (x9 : Int32) (M : k_M) (H : Heap) (locs : List Loc) (ls : Array Slot), wp_X4_more_L41 G post n x0 x6 x7 x8 x9 M → lv_has ls 10 [(0, .ref x0), (6, .int x6), (7, .int x7), (8, .int x8), (9, .int x9)] → kR G M (kA M0 s.heap.size) H → va_S (kA M0 s.heap.size) s.heap H locs → W p l e (headSpec wsX4_more ({ frames := 4, cells := 0, slots := 0, locals := 89 })).room s m ([.ref p0, .int p1, .int p2, .int p3, .int p4] : List Value).toArray below meth c H locs 0 0 (MQ below (va_Qi post (kB G M0 s.heap.size) (kA M0 s.heap.size)) ([.ref p0, .int p1, .int p2, .int p3, .int p4] : List Value).toArray s 0 0 (kA M0 s.heap.size)) (F0 m 41 ls []) := by
    intro n
    induction n with
    | zero =>
      intro  x0 x6 x7 x8 x9 M H locs ls h
      exact False.elim h
    | succ n ih =>
      intro  x0 x6 x7 x8 x9 M H locs ls h hl hR hS
      refine lv_iload hx hb dX4_more_41 (lv_at hl 4 rfl) ?_
      refine lv_bipush (v := (21 : Int32)) hx hb dX4_more_43 (by decide) ?_
      obtain ⟨ha, hb2⟩ := h
      refine lv_icmp_ge (tgt := 85) hx hb dX4_more_45 (by decide) (fun hc => ?_) (fun hc => ?_)
      · replace h := ha hc
        refine lv_iload hx hb dX4_more_85 (lv_at hl 3 rfl) ?_
        exact k_reti hx hb hr hlocks rfl hR hS h dX4_more_87
      · replace h := hb2 hc
        refine lv_iload hx hb dX4_more_48 (lv_at hl 3 rfl) ?_
        refine lv_aload_n hx hb dX4_more_50 rfl (lv_at hl 0 rfl) ?_
        obtain ⟨fs12, v13, hm14, hv15, h⟩ := h
        refine k_get (ci := 5) (C := RX4) (T := TX4) (N := 13) hx hb hts in_X4_more_X4 hown hK hR hm14 rfl 0 (by decide) hw1 (fun _ h9 => h9) hv15 dX4_more_51 ?_
        refine lv_iload hx hb dX4_more_54 (lv_at hl 1 rfl) ?_
        refine lv_iload hx hb dX4_more_56 (lv_at hl 4 rfl) ?_
        refine lv_iadd hx hb dX4_more_58 ?_
        obtain ⟨n16, f17, hm18, hv19, h⟩ := h
        refine k_iald hx hb hK hR hm18 hv19 dX4_more_59 ?_
        refine lv_aload_n hx hb dX4_more_60 rfl (lv_at hl 0 rfl) ?_
        obtain ⟨fs20, v21, hm22, hv23, h⟩ := h
        refine k_get (ci := 5) (C := RX4) (T := TX4) (N := 13) hx hb hts in_X4_more_X4 hown hK hR hm22 rfl 0 (by decide) hw1 (fun _ h9 => h9) hv23 dX4_more_61 ?_
        refine lv_iload hx hb dX4_more_64 (lv_at hl 2 rfl) ?_
        refine lv_iload hx hb dX4_more_66 (lv_at hl 4 rfl) ?_
        refine lv_iadd hx hb dX4_more_68 ?_
        obtain ⟨n24, f25, hm26, hv27, h⟩ := h
        refine k_iald hx hb hK hR hm26 hv27 dX4_more_69 ?_
        refine lv_iconst (v := (-1 : Int32)) hx hb dX4_more_70 (by decide) ?_
        refine lv_ixor hx hb dX4_more_71 ?_
        refine lv_iand hx hb dX4_more_72 ?_
        refine k_calli0 (va_runS (As := [.int ((f17 ((x6 + x9)).toNatClampNeg) &&& ((f25 ((x7 + x9)).toNatClampNeg) ^^^ (-1 : Int32)))]) (rest := [.int x8]) ⟨hx, hb, hml, hown, hts⟩ (c_X4_bits l G _ _ _ ((f17 ((x6 + x9)).toNatClampNeg) &&& ((f25 ((x7 + x9)).toNatClampNeg) ^^^ (-1 : Int32))) h) (va_cwS 1 hts gX4_more_X4_bits rfl rfl rfl (by decide +kernel) ⟨Nat.le_of_ble_eq_true rfl, Nat.le_of_ble_eq_true rfl⟩) (k_preS hR hS hA hE) rfl rfl hl.1 rfl (lv_room (Nat.le_of_ble_eq_true rfl)) dX4_more_73 ⟨Nat.zero_le _, Nat.zero_le _⟩) hR hS hA (fun r28 M29 H locs h hR hS => ?_)
        refine lv_iadd hx hb dX4_more_76 ?_
        refine lv_istore (lv' := [(8, .int (x8 + r28)), (0, .ref x0), (6, .int x6), (7, .int x7), (9, .int x9)]) hx hb dX4_more_77 hl (by decide) rfl (fun ls hl => ?_)
        refine lv_iinc (v := (x9 + (1 : Int32))) (lv' := [(9, .int (x9 + (1 : Int32))), (8, .int (x8 + r28)), (0, .ref x0), (6, .int x6), (7, .int x7)]) hx hb dX4_more_79 hl (k := 4) rfl rfl (by decide) rfl (fun ls hl => ?_)
        refine lv_goto (tgt := 41) hx hb dX4_more_82 (by decide) ?_
        exact ih _ _ _ _ _ _ _ _ _ h (lv_sub hl [2, 3, 4, 1, 0] rfl) hR hS
  have hl := lv_entry ([.ref p0, .int p1, .int p2, .int p3, .int p4]) (n := 10) (Nat.le_of_ble_eq_true rfl)
  rw [lg_entry_eq]
  generalize (lg_sl ([.ref p0, .int p1, .int p2, .int p3, .int p4]) ++ List.replicate (10 - (lg_sl ([.ref p0, .int p1, .int p2, .int p3, .int p4])).length) Slot.unset).toArray = ls at hl ⊢
  have hl : lv_has ls 10 [(0, .ref p0), (1, .int p1), (2, .int p2), (3, .int p3), (4, .int p4)] := hl
  have hR0 := hR
  refine lv_aload_n hx hb dX4_more_0 rfl (lv_at hl 0 rfl) ?_
  refine lv_iload_n hx hb dX4_more_1 rfl (lv_at hl 1 rfl) ?_
  refine lv_iload_n hx hb dX4_more_2 rfl (lv_at hl 2 rfl) ?_
  refine lv_iload_n hx hb dX4_more_3 rfl (lv_at hl 3 rfl) ?_
  refine lv_iload hx hb dX4_more_4 (lv_at hl 4 rfl) ?_
  obtain ⟨fs4, hm3, h⟩ := h
  refine k_calli0 (va_runV (As := [.int p1, .int p2, .int p3, .int p4]) (rest := []) ⟨hx, hb, hml, hown, hts⟩ (c_X4_whyNoOrder l G _ _ _ p0 p1 p2 p3 p4 h) (cwV 4 hts gX4_more_X4_whyNoOrder rfl rfl rfl (by decide +kernel) ⟨Nat.le_of_ble_eq_true rfl, Nat.le_of_ble_eq_true rfl⟩) (k_preV (q := (RX4, TX4, 13)) hm3 rfl hR hS hA hE) rfl rfl hl.1 rfl (lv_room (Nat.le_of_ble_eq_true rfl)) dX4_more_6 ⟨Nat.zero_le _, Nat.zero_le _⟩) hR hS hA (fun r1 M2 H locs h hR hS => ?_)
  refine lv_istore (lv' := [(5, .int r1), (0, .ref p0), (1, .int p1), (2, .int p2), (3, .int p3), (4, .int p4)]) hx hb dX4_more_9 hl (by decide) rfl (fun ls hl => ?_)
  refine lv_iload hx hb dX4_more_11 (lv_at hl 0 rfl) ?_
  obtain ⟨ha, hb2⟩ := h
  refine lv_if_ge (tgt := 19) hx hb dX4_more_13 (by decide) (fun hc => ?_) (fun hc => ?_)
  · replace h := ha hc
    refine lv_iload_n hx hb dX4_more_19 rfl (lv_at hl 2 rfl) ?_
    refine lv_iload_n hx hb dX4_more_20 rfl (lv_at hl 3 rfl) ?_
    refine k_calli0 (va_runS (As := [.int p1, .int p2]) (rest := []) ⟨hx, hb, hml, hown, hts⟩ (c_X4_placeOf l G _ _ _ p1 p2 h) (va_cwS 2 hts gX4_more_X4_placeOf rfl rfl rfl (by decide +kernel) ⟨Nat.le_of_ble_eq_true rfl, Nat.le_of_ble_eq_true rfl⟩) (k_preS hR hS hA hE) rfl rfl hl.1 rfl (lv_room (Nat.le_of_ble_eq_true rfl)) dX4_more_21 ⟨Nat.zero_le _, Nat.zero_le _⟩) hR hS hA (fun r5 M6 H locs h hR hS => ?_)
    refine lv_istore (lv' := [(6, .int r5), (5, .int r1), (0, .ref p0), (1, .int p1), (2, .int p2), (3, .int p3), (4, .int p4)]) hx hb dX4_more_24 hl (by decide) rfl (fun ls hl => ?_)
    refine lv_iload_n hx hb dX4_more_26 rfl (lv_at hl 5 rfl) ?_
    refine lv_iload hx hb dX4_more_27 (lv_at hl 6 rfl) ?_
    refine k_calli0 (va_runS (As := [.int p3, .int p4]) (rest := []) ⟨hx, hb, hml, hown, hts⟩ (c_X4_placeOf l G _ _ _ p3 p4 h) (va_cwS 2 hts gX4_more_X4_placeOf rfl rfl rfl (by decide +kernel) ⟨Nat.le_of_ble_eq_true rfl, Nat.le_of_ble_eq_true rfl⟩) (k_preS hR hS hA hE) rfl rfl hl.1 rfl (lv_room (Nat.le_of_ble_eq_true rfl)) dX4_more_29 ⟨Nat.zero_le _, Nat.zero_le _⟩) hR hS hA (fun r8 M9 H locs h hR hS => ?_)
    refine lv_istore (lv' := [(7, .int r8), (6, .int r5), (5, .int r1), (0, .ref p0), (1, .int p1), (2, .int p2), (3, .int p3), (4, .int p4)]) hx hb dX4_more_32 hl (by decide) rfl (fun ls hl => ?_)
    refine lv_iconst (v := (0 : Int32)) hx hb dX4_more_34 (by decide) ?_
    refine lv_istore (lv' := [(8, .int (0 : Int32)), (7, .int r8), (6, .int r5), (5, .int r1), (0, .ref p0), (1, .int p1), (2, .int p2), (3, .int p3), (4, .int p4)]) hx hb dX4_more_35 hl (by decide) rfl (fun ls hl => ?_)
    refine lv_bipush (v := (17 : Int32)) hx hb dX4_more_37 (by decide) ?_
    refine lv_istore (lv' := [(9, .int (17 : Int32)), (8, .int (0 : Int32)), (7, .int r8), (6, .int r5), (5, .int r1), (0, .ref p0), (1, .int p1), (2, .int p2), (3, .int p3), (4, .int p4)]) hx hb dX4_more_39 hl (by decide) rfl (fun ls hl => ?_)
    obtain ⟨k11, h⟩ := h
    exact L41 k11 _ _ _ _ _ _ _ _ _ h (lv_sub hl [5, 3, 2, 1, 0] rfl) hR hS
  · replace h := hb2 hc
    refine lv_iload hx hb dX4_more_16 (lv_at hl 0 rfl) ?_
    exact k_reti hx hb hr hlocks rfl hR hS h dX4_more_18

def wp_X4_character (G : k_G) (post : Int32 → k_M → Prop) (p0 : Nat) (p1 : Int32) (M0 : k_M) : Prop :=
  (∃ fs1 v2, M0 p0 = some (kO 5 fs1) ∧ fs1[6]? = some (.int v2) ∧
  ((v2 ≤ p1 →
  post (-1 : Int32) M0) ∧
  (¬ v2 ≤ p1 →
  (∃ fs5 v6, M0 p0 = some (kO 5 fs5) ∧ fs5[5]? = some (.ref v6) ∧
    (∃ n9 f10, M0 v6 = some (kI G n9 f10) ∧ vp_in p1 n9 ∧
    post (f10 (p1).toNatClampNeg) M0)))))
theorem in_X4_character_X4 : ∀ w ∈ wsX40, w ∈ wsX4_character := by decide +kernel
set_option maxHeartbeats 4000000 in
set_option maxRecDepth 100000 in
theorem c_X4_character (l : Launch) (G : k_G) (M0 : k_M) (sz : Nat) (post : Int32 → k_M → Prop) (p0 : Nat) (p1 : Int32) (h : wp_X4_character G post p0 p1 M0) : Met l yX4_character wsX4_character ({ frames := 0, cells := 0, slots := 0, locals := 0 }) (va_Pc [.ref p0, .int p1] (kPre G M0 sz)) (va_Qi post (kB G M0 sz) (kA M0 sz)) 0 0 (kA M0 sz) := by
  refine Met.ofW (cc := cX4_character) (maxL := 2) (ret := (some .int)) (by decide) rfl ?_
  intro p e s m args below meth c s₁ B hml hv
  obtain ⟨rfl, hsz, hR, hE⟩ := hv
  have hx := B.exec
  have hb := B.bytes
  have hr := B.returns
  have hts := atoms_spec (ws := wsX4_character) B.pre
  have hown : s.vm.findClass RX4 = some m.cls := findClass_of_methodNamed B.named
  have hlocks := B.notSynchronized
  subst hsz
  have hK := hE.1
  have hA : ∀ q, s.heap.size ≤ q → kA M0 s.heap.size q := kA.new
  have hS : va_S (kA M0 s.heap.size) s.heap s.heap [] := va_S.rf
  have hw1 := hts (.fieldLink RX4 157 "ForkedStampsModel" "padLength" "I") (by decide +kernel)
  have hw2 := hts (.fieldLink RX4 22 "ForkedStampsModel" "pad" "[I") (by decide +kernel)
  have hl := lv_entry ([.ref p0, .int p1]) (n := 2) (Nat.le_of_ble_eq_true rfl)
  rw [lg_entry_eq]
  generalize (lg_sl ([.ref p0, .int p1]) ++ List.replicate (2 - (lg_sl ([.ref p0, .int p1])).length) Slot.unset).toArray = ls at hl ⊢
  have hl : lv_has ls 2 [(0, .ref p0), (1, .int p1)] := hl
  have hR0 := hR
  refine lv_iload_n hx hb dX4_character_0 rfl (lv_at hl 1 rfl) ?_
  refine lv_aload_n hx hb dX4_character_1 rfl (lv_at hl 0 rfl) ?_
  obtain ⟨fs1, v2, hm3, hv4, h⟩ := h
  refine k_get (ci := 5) (C := RX4) (T := TX4) (N := 13) hx hb hts in_X4_character_X4 hown hK hR hm3 rfl 6 (by decide) hw1 (fun _ h9 => h9) hv4 dX4_character_2 ?_
  obtain ⟨ha, hb2⟩ := h
  refine lv_icmp_ge (tgt := 17) hx hb dX4_character_5 (by decide) (fun hc => ?_) (fun hc => ?_)
  · replace h := ha hc
    refine lv_iconst (v := (-1 : Int32)) hx hb dX4_character_17 (by decide) ?_
    exact k_reti hx hb hr hlocks rfl hR hS h dX4_character_18
  · replace h := hb2 hc
    refine lv_aload_n hx hb dX4_character_8 rfl (lv_at hl 0 rfl) ?_
    obtain ⟨fs5, v6, hm7, hv8, h⟩ := h
    refine k_get (ci := 5) (C := RX4) (T := TX4) (N := 13) hx hb hts in_X4_character_X4 hown hK hR hm7 rfl 5 (by decide) hw2 (fun _ h9 => h9) hv8 dX4_character_9 ?_
    refine lv_iload_n hx hb dX4_character_12 rfl (lv_at hl 1 rfl) ?_
    obtain ⟨n9, f10, hm11, hv12, h⟩ := h
    refine k_iald hx hb hK hR hm11 hv12 dX4_character_13 ?_
    refine lv_goto (tgt := 18) hx hb dX4_character_14 (by decide) ?_
    exact k_reti hx hb hr hlocks rfl hR hS h dX4_character_18

def wp_X4_findFault_b223 (G : k_G) (post : Int32 → k_M → Prop) (K10 : Nat → Int32 → Int32 → Int32 → Int32 → k_M → Prop) (x0 : Nat) (x1 : Int32) (x2 : Int32) (x3 : Int32) (x4 : Int32) (M : k_M) : Prop :=
  ((x4 ≤ 0 →
    K10 x0 x1 x2 x3 x4 M) ∧
    (¬ x4 ≤ 0 →
    (∃ fs24, M x0 = some (kO 5 fs24) ∧ wp_X4_character G (fun r21 M22 =>
      ((r21 = (44 : Int32) →
      (∃ fs25 v26, M22 x0 = some (kO 5 fs25) ∧ fs25[10]? = some (.ref v26) ∧
        (∃ n29 f30, M22 v26 = some (kI G n29 f30) ∧ vp_in (x4 - (1 : Int32)) n29 ∧ ∀ M31 : k_M, M31 = va_up M22 v26 (some (kI G n29 (upd f30 ((x4 - (1 : Int32))).toNatClampNeg (1 : Int32)))) →
        (∃ fs34 v35, M31 x0 = some (kO 5 fs34) ∧ fs34[9]? = some (.ref v35) ∧
        (∃ n38 f39, M31 v35 = some (kI G n38 f39) ∧ vp_in (x4 - (1 : Int32)) n38 ∧
        (∀ y42 : Int32, y42 = ((f39 ((x4 - (1 : Int32))).toNatClampNeg) / (2 : Int32)) →
        K10 x0 (x1 + (1 : Int32)) x2 y42 x4 M31)))))) ∧
      (¬ r21 = (44 : Int32) →
      post x1 M22))) x0 x1 M)))
def wp_X4_findFault_L184 (G : k_G) (post : Int32 → k_M → Prop) (K10 : Nat → Int32 → Int32 → Int32 → Int32 → k_M → Prop) : Nat → Nat → Int32 → Int32 → Int32 → Int32 → k_M → Prop
  | 0 => fun _ _ _ _ _ _ => False
  | n + 1 => fun x0 x1 x2 x3 x4 M =>
  ((x4 ≤ 0 →
      wp_X4_findFault_b223 G post K10 x0 x1 x2 x3 x4 M) ∧
      (¬ x4 ≤ 0 →
      (∃ fs43 v44, M x0 = some (kO 5 fs43) ∧ fs43[10]? = some (.ref v44) ∧
        (∃ n47 f48, M v44 = some (kI G n47 f48) ∧ vp_in (x4 - (1 : Int32)) n47 ∧
        ((¬ (f48 ((x4 - (1 : Int32))).toNatClampNeg) = (1 : Int32) →
        wp_X4_findFault_b223 G post K10 x0 x1 x2 x3 x4 M) ∧
        ((f48 ((x4 - (1 : Int32))).toNatClampNeg) = (1 : Int32) →
        (∃ fs54, M x0 = some (kO 5 fs54) ∧ wp_X4_character G (fun r51 M52 =>
          ((r51 = (41 : Int32) →
          (wp_X4_findFault_L184 G post K10 n) x0 (x1 + (1 : Int32)) x2 x3 (x4 + (-1 : Int32)) M52) ∧
          (¬ r51 = (41 : Int32) →
          post x1 M52))) x0 x1 M)))))))
def wp_X4_findFault_L155 (G : k_G) (post : Int32 → k_M → Prop) (K10 : Nat → Int32 → Int32 → Int32 → Int32 → k_M → Prop) : Nat → Nat → Int32 → Int32 → Int32 → Int32 → Int32 → Int32 → k_M → Prop
  | 0 => fun _ _ _ _ _ _ _ _ => False
  | n + 1 => fun x0 x1 x2 x3 x4 x5 x6 M =>
  ((x3 ≤ x6 →
      ∃ k20, wp_X4_findFault_L184 G post K10 k20 x0 x1 (x2 + x3) x3 x4 M) ∧
      (¬ x3 ≤ x6 →
      (∃ fs55 v56, M x0 = some (kO 5 fs55) ∧ fs55[8]? = some (.ref v56) ∧
        (∃ n59 f60, M v56 = some (kI G n59 f60) ∧ vp_in (((1 : Int32) + x2) + x6) n59 ∧ ∀ M61 : k_M, M61 = va_up M v56 (some (kI G n59 (upd f60 ((((1 : Int32) + x2) + x6)).toNatClampNeg x5))) →
        (wp_X4_findFault_L155 G post K10 n) x0 x1 x2 x3 x4 x5 (x6 + (1 : Int32)) M61))))
def wp_X4_findFault_L90 (G : k_G) (post : Int32 → k_M → Prop) (K10 : Nat → Int32 → Int32 → Int32 → Int32 → k_M → Prop) : Nat → Nat → Int32 → Int32 → Int32 → Int32 → Int32 → k_M → Prop
  | 0 => fun _ _ _ _ _ _ _ => False
  | n + 1 => fun x0 x1 x2 x3 x4 x5 M =>
  ((x5 ≤ 0 →
      ∃ k19, wp_X4_findFault_L155 G post K10 k19 x0 x1 x2 x3 x4 x5 (0 : Int32) M) ∧
      (¬ x5 ≤ 0 →
      (∃ fs67, M x0 = some (kO 5 fs67) ∧ wp_X4_character G (fun r64 M65 =>
        wp_X4_within G (fun r68 M69 =>
        ((r68 = 0 →
        ∃ k71, wp_X4_findFault_L155 G post K10 k71 x0 x1 x2 x3 x4 x5 (0 : Int32) M69) ∧
        (¬ r68 = 0 →
        (∃ fs75, M69 x0 = some (kO 5 fs75) ∧ wp_X4_character G (fun r72 M73 =>
          (((250 : Int32) < ((((10 : Int32) * x5) + r72) - (48 : Int32)) →
          ∃ k76, wp_X4_findFault_L155 G post K10 k76 x0 x1 x2 x3 x4 x5 (0 : Int32) M73) ∧
          (¬ (250 : Int32) < ((((10 : Int32) * x5) + r72) - (48 : Int32)) →
          (∃ fs80, M73 x0 = some (kO 5 fs80) ∧ wp_X4_character G (fun r77 M78 =>
            (∀ y81 : Int32, y81 = ((((10 : Int32) * x5) + r77) - (48 : Int32)) →
            (wp_X4_findFault_L90 G post K10 n) x0 (x1 + (1 : Int32)) x2 x3 x4 y81 M78)) x0 x1 M73)))) x0 x1 M69)))) r64 (48 : Int32) (57 : Int32) M65) x0 x1 M)))
def wp_X4_findFault_b60 (G : k_G) (post : Int32 → k_M → Prop) (K10 : Nat → Int32 → Int32 → Int32 → Int32 → k_M → Prop) (x0 : Nat) (x1 : Int32) (x2 : Int32) (x3 : Int32) (x4 : Int32) (M : k_M) : Prop :=
  (∃ fs10, M x0 = some (kO 5 fs10) ∧ wp_X4_character G (fun r7 M8 =>
    wp_X4_within G (fun r11 M12 =>
    ((¬ r11 = 0 →
    (∃ fs17, M12 x0 = some (kO 5 fs17) ∧ wp_X4_character G (fun r14 M15 =>
      ∃ k18, wp_X4_findFault_L90 G post K10 k18 x0 (x1 + (1 : Int32)) x2 x3 x4 (r14 - (48 : Int32)) M15) x0 x1 M12)) ∧
    (r11 = 0 →
    post x1 M12))) r7 (48 : Int32) (57 : Int32) M8) x0 x1 M)
def wp_X4_findFault_L16 (G : k_G) (post : Int32 → k_M → Prop) (K10 : Nat → Int32 → Int32 → Int32 → Int32 → k_M → Prop) : Nat → Nat → Int32 → Int32 → Int32 → Int32 → k_M → Prop
  | 0 => fun _ _ _ _ _ _ => False
  | n + 1 => fun x0 x1 x2 x3 x4 M =>
  ((x3 ≤ (1 : Int32) →
      wp_X4_findFault_b60 G post K10 x0 x1 x2 x3 x4 M) ∧
      (¬ x3 ≤ (1 : Int32) →
      (∃ fs85, M x0 = some (kO 5 fs85) ∧ wp_X4_character G (fun r82 M83 =>
        ((¬ r82 = (40 : Int32) →
        wp_X4_findFault_b60 G post K10 x0 x1 x2 x3 x4 M83) ∧
        (r82 = (40 : Int32) →
        (∃ fs86 v87, M83 x0 = some (kO 5 fs86) ∧ fs86[9]? = some (.ref v87) ∧
          (∃ n90 f91, M83 v87 = some (kI G n90 f91) ∧ vp_in x4 n90 ∧ ∀ M92 : k_M, M92 = va_up M83 v87 (some (kI G n90 (upd f91 (x4).toNatClampNeg x3))) →
          (∃ fs95 v96, M92 x0 = some (kO 5 fs95) ∧ fs95[10]? = some (.ref v96) ∧
          (∃ n99 f100, M92 v96 = some (kI G n99 f100) ∧ vp_in x4 n99 ∧ ∀ M101 : k_M, M101 = va_up M92 v96 (some (kI G n99 (upd f100 (x4).toNatClampNeg (0 : Int32)))) →
          (wp_X4_findFault_L16 G post K10 n) x0 (x1 + (1 : Int32)) x2 (x3 / (2 : Int32)) (x4 + (1 : Int32)) M101))))))) x0 x1 M)))
def wp_X4_findFault_L10 (G : k_G) (post : Int32 → k_M → Prop) : Nat → Nat → Int32 → Int32 → Int32 → Int32 → k_M → Prop
  | 0 => fun _ _ _ _ _ _ => False
  | n + 1 => fun x0 x1 x2 x3 x4 M =>
  (((16 : Int32) ≤ x2 →
      (∃ fs2 v3, M x0 = some (kO 5 fs2) ∧ fs2[6]? = some (.int v3) ∧
        ((¬ x1 = v3 →
        post x1 M) ∧
        (x1 = v3 →
        post (-6 : Int32) M)))) ∧
      (¬ (16 : Int32) ≤ x2 →
      ∃ k6, wp_X4_findFault_L16 G post (wp_X4_findFault_L10 G post n) k6 x0 x1 x2 x3 x4 M))
def wp_X4_findFault (G : k_G) (post : Int32 → k_M → Prop) (p0 : Nat) (M0 : k_M) : Prop :=
  ∃ k1, wp_X4_findFault_L10 G post k1 p0 (0 : Int32) (0 : Int32) (16 : Int32) (0 : Int32) M0
theorem in_X4_findFault_X4 : ∀ w ∈ wsX40, w ∈ wsX4_findFault := by decide +kernel
set_option maxHeartbeats 4000000 in
set_option maxRecDepth 100000 in
theorem c_X4_findFault (l : Launch) (G : k_G) (M0 : k_M) (sz : Nat) (post : Int32 → k_M → Prop) (p0 : Nat) (h : wp_X4_findFault G post p0 M0) : Met l yX4_findFault wsX4_findFault ({ frames := 1, cells := 0, slots := 0, locals := 22 }) (va_Pc [.ref p0] (kPre G M0 sz)) (va_Qi post (kB G M0 sz) (kA M0 sz)) 0 0 (kA M0 sz) := by
  refine Met.ofW (cc := cX4_findFault) (maxL := 7) (ret := (some .int)) (by decide) rfl ?_
  intro p e s m args below meth c s₁ B hml hv
  obtain ⟨rfl, hsz, hR, hE⟩ := hv
  have hx := B.exec
  have hb := B.bytes
  have hr := B.returns
  have hts := atoms_spec (ws := wsX4_findFault) B.pre
  have hown : s.vm.findClass RX4 = some m.cls := findClass_of_methodNamed B.named
  have hlocks := B.notSynchronized
  subst hsz
  have hK := hE.1
  have hA : ∀ q, s.heap.size ≤ q → kA M0 s.heap.size q := kA.new
  have hS : va_S (kA M0 s.heap.size) s.heap s.heap [] := va_S.rf
  have hw1 := hts (.fieldLink RX4 157 "ForkedStampsModel" "padLength" "I") (by decide +kernel)
  have hw2 := hts (.fieldLink RX4 34 "ForkedStampsModel" "halves" "[I") (by decide +kernel)
  have hw3 := hts (.fieldLink RX4 31 "ForkedStampsModel" "sizes" "[I") (by decide +kernel)
  have hw4 := hts (.fieldLink RX4 28 "ForkedStampsModel" "told" "[I") (by decide +kernel)
  have b223 : ∀ (K10 : Nat → Int32 → Int32 → Int32 → Int32 → k_M → Prop) (hK10 : ∀ (x0 : Nat) (x1 : Int32) (x2 : Int32) (x3 : Int32) (x4 : Int32) (M : k_M) (H : Heap) (locs : List Loc) (ls : Array Slot), K10 x0 x1 x2 x3 x4 M → lv_has ls 7 [(0, .ref x0), (1, .int x1), (2, .int x2), (3, .int x3), (4, .int x4)] → kR G M (kA M0 s.heap.size) H → va_S (kA M0 s.heap.size) s.heap H locs → W p l e (headSpec wsX4_findFault ({ frames := 1, cells := 0, slots := 0, locals := 22 })).room s m ([.ref p0] : List Value).toArray below meth c H locs 0 0 (MQ below (va_Qi post (kB G M0 s.heap.size) (kA M0 s.heap.size)) ([.ref p0] : List Value).toArray s 0 0 (kA M0 s.heap.size)) (F0 m 10 ls [])), ∀ (x0 : Nat) (x1 : Int32) (x2 : Int32) (x3 : Int32) (x4 : Int32) (M : k_M) (H : Heap) (locs : List Loc) (ls : Array Slot), wp_X4_findFault_b223 G post K10 x0 x1 x2 x3 x4 M → lv_has ls 7 [(0, .ref x0), (1, .int x1), (2, .int x2), (3, .int x3), (4, .int x4)] → kR G M (kA M0 s.heap.size) H → va_S (kA M0 s.heap.size) s.heap H locs → W p l e (headSpec wsX4_findFault ({ frames := 1, cells := 0, slots := 0, locals := 22 })).room s m ([.ref p0] : List Value).toArray below meth c H locs 0 0 (MQ below (va_Qi post (kB G M0 s.heap.size) (kA M0 s.heap.size)) ([.ref p0] : List Value).toArray s 0 0 (kA M0 s.heap.size)) (F0 m 223 ls []) := by
    intro K10 hK10 x0 x1 x2 x3 x4 M H locs ls h hl hR hS
    refine lv_iload hx hb dX4_findFault_223 (lv_at hl 4 rfl) ?_
    obtain ⟨ha, hb2⟩ := h
    refine lv_if_le (tgt := 265) hx hb dX4_findFault_225 (by decide) (fun hc => ?_) (fun hc => ?_)
    · replace h := ha hc
      refine lv_goto (tgt := 10) hx hb dX4_findFault_265 (by decide) ?_
      exact hK10 _ _ _ _ _ _ _ _ _ h (lv_sub hl [0, 1, 2, 3, 4] rfl) hR hS
    · replace h := hb2 hc
      refine lv_aload_n hx hb dX4_findFault_228 rfl (lv_at hl 0 rfl) ?_
      refine lv_iload_n hx hb dX4_findFault_229 rfl (lv_at hl 1 rfl) ?_
      obtain ⟨fs24, hm23, h⟩ := h
      refine k_calli0 (va_runV (As := [.int x1]) (rest := []) ⟨hx, hb, hml, hown, hts⟩ (c_X4_character l G _ _ _ x0 x1 h) (cwV 1 hts gX4_findFault_X4_character rfl rfl rfl (by decide +kernel) ⟨Nat.le_of_ble_eq_true rfl, Nat.le_of_ble_eq_true rfl⟩) (k_preV (q := (RX4, TX4, 13)) hm23 rfl hR hS hA hE) rfl rfl hl.1 rfl (lv_room (Nat.le_of_ble_eq_true rfl)) dX4_findFault_230 ⟨Nat.zero_le _, Nat.zero_le _⟩) hR hS hA (fun r21 M22 H locs h hR hS => ?_)
      refine lv_bipush (v := (44 : Int32)) hx hb dX4_findFault_233 (by decide) ?_
      obtain ⟨ha, hb2⟩ := h
      refine lv_icmp_eq (tgt := 240) hx hb dX4_findFault_235 (by decide) (fun hc => ?_) (fun hc => ?_)
      · replace h := ha hc
        refine lv_iinc (v := (x1 + (1 : Int32))) (lv' := [(1, .int (x1 + (1 : Int32))), (0, .ref x0), (2, .int x2), (3, .int x3), (4, .int x4)]) hx hb dX4_findFault_240 hl (k := 1) rfl rfl (by decide) rfl (fun ls hl => ?_)
        refine lv_aload_n hx hb dX4_findFault_243 rfl (lv_at hl 1 rfl) ?_
        obtain ⟨fs25, v26, hm27, hv28, h⟩ := h
        refine k_get (ci := 5) (C := RX4) (T := TX4) (N := 13) hx hb hts in_X4_findFault_X4 hown hK hR hm27 rfl 10 (by decide) hw2 (fun _ h9 => h9) hv28 dX4_findFault_244 ?_
        refine lv_iload hx hb dX4_findFault_247 (lv_at hl 4 rfl) ?_
        refine lv_iconst (v := (1 : Int32)) hx hb dX4_findFault_249 (by decide) ?_
        refine lv_isub hx hb dX4_findFault_250 ?_
        refine lv_iconst (v := (1 : Int32)) hx hb dX4_findFault_251 (by decide) ?_
        obtain ⟨n29, f30, hm32, hv33, h⟩ := h
        replace h := h _ rfl
        refine k_iast hx hb hK hR hS hm32 hv33 dX4_findFault_252 (fun H locs hR hS => ?_)
        refine lv_aload_n hx hb dX4_findFault_253 rfl (lv_at hl 1 rfl) ?_
        obtain ⟨fs34, v35, hm36, hv37, h⟩ := h
        refine k_get (ci := 5) (C := RX4) (T := TX4) (N := 13) hx hb hts in_X4_findFault_X4 hown hK hR hm36 rfl 9 (by decide) hw3 (fun _ h9 => h9) hv37 dX4_findFault_254 ?_
        refine lv_iload hx hb dX4_findFault_257 (lv_at hl 4 rfl) ?_
        refine lv_iconst (v := (1 : Int32)) hx hb dX4_findFault_259 (by decide) ?_
        refine lv_isub hx hb dX4_findFault_260 ?_
        obtain ⟨n38, f39, hm40, hv41, h⟩ := h
        refine k_iald hx hb hK hR hm40 hv41 dX4_findFault_261 ?_
        refine lv_iconst (v := (2 : Int32)) hx hb dX4_findFault_262 (by decide) ?_
        refine lv_idiv hx hb dX4_findFault_263 (by decide) ?_
        refine lv_topi (fun y42 ey42 => ?_)
        replace h := h y42 ey42
        refine lv_istore_n (lv' := [(3, .int y42), (1, .int (x1 + (1 : Int32))), (0, .ref x0), (2, .int x2), (4, .int x4)]) hx hb dX4_findFault_264 rfl hl (by decide) rfl (fun ls hl => ?_)
        refine lv_goto (tgt := 10) hx hb dX4_findFault_265 (by decide) ?_
        exact hK10 _ _ _ _ _ _ _ _ _ h (lv_sub hl [2, 1, 3, 0, 4] rfl) hR hS
      · replace h := hb2 hc
        refine lv_iload_n hx hb dX4_findFault_238 rfl (lv_at hl 1 rfl) ?_
        exact k_reti hx hb hr hlocks rfl hR hS h dX4_findFault_239
  have L184 : ∀ (K10 : Nat → Int32 → Int32 → Int32 → Int32 → k_M → Prop) (hK10 : ∀ (x0 : Nat) (x1 : Int32) (x2 : Int32) (x3 : Int32) (x4 : Int32) (M : k_M) (H : Heap) (locs : List Loc) (ls : Array Slot), K10 x0 x1 x2 x3 x4 M → lv_has ls 7 [(0, .ref x0), (1, .int x1), (2, .int x2), (3, .int x3), (4, .int x4)] → kR G M (kA M0 s.heap.size) H → va_S (kA M0 s.heap.size) s.heap H locs → W p l e (headSpec wsX4_findFault ({ frames := 1, cells := 0, slots := 0, locals := 22 })).room s m ([.ref p0] : List Value).toArray below meth c H locs 0 0 (MQ below (va_Qi post (kB G M0 s.heap.size) (kA M0 s.heap.size)) ([.ref p0] : List Value).toArray s 0 0 (kA M0 s.heap.size)) (F0 m 10 ls [])) (n : Nat), ∀ (x0 : Nat) (x1 : Int32) (x2 : Int32) (x3 : Int32) (x4 : Int32) (M : k_M) (H : Heap) (locs : List Loc) (ls : Array Slot), wp_X4_findFault_L184 G post K10 n x0 x1 x2 x3 x4 M → lv_has ls 7 [(0, .ref x0), (1, .int x1), (2, .int x2), (3, .int x3), (4, .int x4)] → kR G M (kA M0 s.heap.size) H → va_S (kA M0 s.heap.size) s.heap H locs → W p l e (headSpec wsX4_findFault ({ frames := 1, cells := 0, slots := 0, locals := 22 })).room s m ([.ref p0] : List Value).toArray below meth c H locs 0 0 (MQ below (va_Qi post (kB G M0 s.heap.size) (kA M0 s.heap.size)) ([.ref p0] : List Value).toArray s 0 0 (kA M0 s.heap.size)) (F0 m 184 ls []) := by
    intro K10 hK10 n
    induction n with
    | zero =>
      intro  x0 x1 x2 x3 x4 M H locs ls h
      exact False.elim h
    | succ n ih =>
      intro  x0 x1 x2 x3 x4 M H locs ls h hl hR hS
      refine lv_iload hx hb dX4_findFault_184 (lv_at hl 4 rfl) ?_
      obtain ⟨ha, hb2⟩ := h
      refine lv_if_le (tgt := 223) hx hb dX4_findFault_186 (by decide) (fun hc => ?_) (fun hc => ?_)
      · replace h := ha hc
        exact b223 _ hK10 _ _ _ _ _ _ _ _ _ h (lv_sub hl [0, 1, 2, 3, 4] rfl) hR hS
      · replace h := hb2 hc
        refine lv_aload_n hx hb dX4_findFault_189 rfl (lv_at hl 0 rfl) ?_
        obtain ⟨fs43, v44, hm45, hv46, h⟩ := h
        refine k_get (ci := 5) (C := RX4) (T := TX4) (N := 13) hx hb hts in_X4_findFault_X4 hown hK hR hm45 rfl 10 (by decide) hw2 (fun _ h9 => h9) hv46 dX4_findFault_190 ?_
        refine lv_iload hx hb dX4_findFault_193 (lv_at hl 4 rfl) ?_
        refine lv_iconst (v := (1 : Int32)) hx hb dX4_findFault_195 (by decide) ?_
        refine lv_isub hx hb dX4_findFault_196 ?_
        obtain ⟨n47, f48, hm49, hv50, h⟩ := h
        refine k_iald hx hb hK hR hm49 hv50 dX4_findFault_197 ?_
        refine lv_iconst (v := (1 : Int32)) hx hb dX4_findFault_198 (by decide) ?_
        obtain ⟨ha, hb2⟩ := h
        refine lv_icmp_ne (tgt := 223) hx hb dX4_findFault_199 (by decide) (fun hc => ?_) (fun hc => ?_)
        · replace h := ha hc
          exact b223 _ hK10 _ _ _ _ _ _ _ _ _ h (lv_sub hl [0, 1, 2, 3, 4] rfl) hR hS
        · replace h := hb2 hc
          refine lv_aload_n hx hb dX4_findFault_202 rfl (lv_at hl 0 rfl) ?_
          refine lv_iload_n hx hb dX4_findFault_203 rfl (lv_at hl 1 rfl) ?_
          obtain ⟨fs54, hm53, h⟩ := h
          refine k_calli0 (va_runV (As := [.int x1]) (rest := []) ⟨hx, hb, hml, hown, hts⟩ (c_X4_character l G _ _ _ x0 x1 h) (cwV 1 hts gX4_findFault_X4_character rfl rfl rfl (by decide +kernel) ⟨Nat.le_of_ble_eq_true rfl, Nat.le_of_ble_eq_true rfl⟩) (k_preV (q := (RX4, TX4, 13)) hm53 rfl hR hS hA hE) rfl rfl hl.1 rfl (lv_room (Nat.le_of_ble_eq_true rfl)) dX4_findFault_204 ⟨Nat.zero_le _, Nat.zero_le _⟩) hR hS hA (fun r51 M52 H locs h hR hS => ?_)
          refine lv_bipush (v := (41 : Int32)) hx hb dX4_findFault_207 (by decide) ?_
          obtain ⟨ha, hb2⟩ := h
          refine lv_icmp_eq (tgt := 214) hx hb dX4_findFault_209 (by decide) (fun hc => ?_) (fun hc => ?_)
          · replace h := ha hc
            refine lv_iinc (v := (x1 + (1 : Int32))) (lv' := [(1, .int (x1 + (1 : Int32))), (0, .ref x0), (2, .int x2), (3, .int x3), (4, .int x4)]) hx hb dX4_findFault_214 hl (k := 1) rfl rfl (by decide) rfl (fun ls hl => ?_)
            refine lv_iinc (v := (x4 + (-1 : Int32))) (lv' := [(4, .int (x4 + (-1 : Int32))), (1, .int (x1 + (1 : Int32))), (0, .ref x0), (2, .int x2), (3, .int x3)]) hx hb dX4_findFault_217 hl (k := 4) rfl rfl (by decide) rfl (fun ls hl => ?_)
            refine lv_goto (tgt := 184) hx hb dX4_findFault_220 (by decide) ?_
            exact ih _ _ _ _ _ _ _ _ _ h (lv_sub hl [2, 1, 3, 4, 0] rfl) hR hS
          · replace h := hb2 hc
            refine lv_iload_n hx hb dX4_findFault_212 rfl (lv_at hl 1 rfl) ?_
            exact k_reti hx hb hr hlocks rfl hR hS h dX4_findFault_213
  have L155 : ∀ (K10 : Nat → Int32 → Int32 → Int32 → Int32 → k_M → Prop) (hK10 : ∀ (x0 : Nat) (x1 : Int32) (x2 : Int32) (x3 : Int32) (x4 : Int32) (M : k_M) (H : Heap) (locs : List Loc) (ls : Array Slot), K10 x0 x1 x2 x3 x4 M → lv_has ls 7 [(0, .ref x0), (1, .int x1), (2, .int x2), (3, .int x3), (4, .int x4)] → kR G M (kA M0 s.heap.size) H → va_S (kA M0 s.heap.size) s.heap H locs → W p l e (headSpec wsX4_findFault ({ frames := 1, cells := 0, slots := 0, locals := 22 })).room s m ([.ref p0] : List Value).toArray below meth c H locs 0 0 (MQ below (va_Qi post (kB G M0 s.heap.size) (kA M0 s.heap.size)) ([.ref p0] : List Value).toArray s 0 0 (kA M0 s.heap.size)) (F0 m 10 ls [])) (n : Nat), ∀ (x0 : Nat) (x1 : Int32) (x2 : Int32) (x3 : Int32) (x4 : Int32) (x5 : Int32) (x6 : Int32) (M : k_M) (H : Heap) (locs : List Loc) (ls : Array Slot), wp_X4_findFault_L155 G post K10 n x0 x1 x2 x3 x4 x5 x6 M → lv_has ls 7 [(0, .ref x0), (1, .int x1), (2, .int x2), (3, .int x3), (4, .int x4), (5, .int x5), (6, .int x6)] → kR G M (kA M0 s.heap.size) H → va_S (kA M0 s.heap.size) s.heap H locs → W p l e (headSpec wsX4_findFault ({ frames := 1, cells := 0, slots := 0, locals := 22 })).room s m ([.ref p0] : List Value).toArray below meth c H locs 0 0 (MQ below (va_Qi post (kB G M0 s.heap.size) (kA M0 s.heap.size)) ([.ref p0] : List Value).toArray s 0 0 (kA M0 s.heap.size)) (F0 m 155 ls []) := by
    intro K10 hK10 n
    induction n with
    | zero =>
      intro  x0 x1 x2 x3 x4 x5 x6 M H locs ls h
      exact False.elim h
    | succ n ih =>
      intro  x0 x1 x2 x3 x4 x5 x6 M H locs ls h hl hR hS
      refine lv_iload hx hb dX4_findFault_155 (lv_at hl 6 rfl) ?_
      refine lv_iload_n hx hb dX4_findFault_157 rfl (lv_at hl 3 rfl) ?_
      obtain ⟨ha, hb2⟩ := h
      refine lv_icmp_ge (tgt := 180) hx hb dX4_findFault_158 (by decide) (fun hc => ?_) (fun hc => ?_)
      · replace h := ha hc
        refine lv_iload_n hx hb dX4_findFault_180 rfl (lv_at hl 2 rfl) ?_
        refine lv_iload_n hx hb dX4_findFault_181 rfl (lv_at hl 3 rfl) ?_
        refine lv_iadd hx hb dX4_findFault_182 ?_
        refine lv_istore_n (lv' := [(2, .int (x2 + x3)), (0, .ref x0), (1, .int x1), (3, .int x3), (4, .int x4), (5, .int x5), (6, .int x6)]) hx hb dX4_findFault_183 rfl hl (by decide) rfl (fun ls hl => ?_)
        obtain ⟨k20, h⟩ := h
        exact L184 _ hK10 k20 _ _ _ _ _ _ _ _ _ h (lv_sub hl [1, 2, 0, 3, 4] rfl) hR hS
      · replace h := hb2 hc
        refine lv_aload_n hx hb dX4_findFault_161 rfl (lv_at hl 0 rfl) ?_
        obtain ⟨fs55, v56, hm57, hv58, h⟩ := h
        refine k_get (ci := 5) (C := RX4) (T := TX4) (N := 13) hx hb hts in_X4_findFault_X4 hown hK hR hm57 rfl 8 (by decide) hw4 (fun _ h9 => h9) hv58 dX4_findFault_162 ?_
        refine lv_iconst (v := (1 : Int32)) hx hb dX4_findFault_165 (by decide) ?_
        refine lv_iload_n hx hb dX4_findFault_166 rfl (lv_at hl 2 rfl) ?_
        refine lv_iadd hx hb dX4_findFault_167 ?_
        refine lv_iload hx hb dX4_findFault_168 (lv_at hl 6 rfl) ?_
        refine lv_iadd hx hb dX4_findFault_170 ?_
        refine lv_iload hx hb dX4_findFault_171 (lv_at hl 5 rfl) ?_
        obtain ⟨n59, f60, hm62, hv63, h⟩ := h
        replace h := h _ rfl
        refine k_iast hx hb hK hR hS hm62 hv63 dX4_findFault_173 (fun H locs hR hS => ?_)
        refine lv_iinc (v := (x6 + (1 : Int32))) (lv' := [(6, .int (x6 + (1 : Int32))), (0, .ref x0), (1, .int x1), (2, .int x2), (3, .int x3), (4, .int x4), (5, .int x5)]) hx hb dX4_findFault_174 hl (k := 6) rfl rfl (by decide) rfl (fun ls hl => ?_)
        refine lv_goto (tgt := 155) hx hb dX4_findFault_177 (by decide) ?_
        exact ih _ _ _ _ _ _ _ _ _ _ _ h (lv_sub hl [1, 2, 3, 4, 5, 6, 0] rfl) hR hS
  have L90 : ∀ (K10 : Nat → Int32 → Int32 → Int32 → Int32 → k_M → Prop) (hK10 : ∀ (x0 : Nat) (x1 : Int32) (x2 : Int32) (x3 : Int32) (x4 : Int32) (M : k_M) (H : Heap) (locs : List Loc) (ls : Array Slot), K10 x0 x1 x2 x3 x4 M → lv_has ls 7 [(0, .ref x0), (1, .int x1), (2, .int x2), (3, .int x3), (4, .int x4)] → kR G M (kA M0 s.heap.size) H → va_S (kA M0 s.heap.size) s.heap H locs → W p l e (headSpec wsX4_findFault ({ frames := 1, cells := 0, slots := 0, locals := 22 })).room s m ([.ref p0] : List Value).toArray below meth c H locs 0 0 (MQ below (va_Qi post (kB G M0 s.heap.size) (kA M0 s.heap.size)) ([.ref p0] : List Value).toArray s 0 0 (kA M0 s.heap.size)) (F0 m 10 ls [])) (n : Nat), ∀ (x0 : Nat) (x1 : Int32) (x2 : Int32) (x3 : Int32) (x4 : Int32) (x5 : Int32) (M : k_M) (H : Heap) (locs : List Loc) (ls : Array Slot), wp_X4_findFault_L90 G post K10 n x0 x1 x2 x3 x4 x5 M → lv_has ls 7 [(0, .ref x0), (1, .int x1), (2, .int x2), (3, .int x3), (4, .int x4), (5, .int x5)] → kR G M (kA M0 s.heap.size) H → va_S (kA M0 s.heap.size) s.heap H locs → W p l e (headSpec wsX4_findFault ({ frames := 1, cells := 0, slots := 0, locals := 22 })).room s m ([.ref p0] : List Value).toArray below meth c H locs 0 0 (MQ below (va_Qi post (kB G M0 s.heap.size) (kA M0 s.heap.size)) ([.ref p0] : List Value).toArray s 0 0 (kA M0 s.heap.size)) (F0 m 90 ls []) := by
    intro K10 hK10 n
    induction n with
    | zero =>
      intro  x0 x1 x2 x3 x4 x5 M H locs ls h
      exact False.elim h
    | succ n ih =>
      intro  x0 x1 x2 x3 x4 x5 M H locs ls h hl hR hS
      refine lv_iload hx hb dX4_findFault_90 (lv_at hl 5 rfl) ?_
      obtain ⟨ha, hb2⟩ := h
      refine lv_if_le (tgt := 152) hx hb dX4_findFault_92 (by decide) (fun hc => ?_) (fun hc => ?_)
      · replace h := ha hc
        refine lv_iconst (v := (0 : Int32)) hx hb dX4_findFault_152 (by decide) ?_
        refine lv_istore (lv' := [(6, .int (0 : Int32)), (0, .ref x0), (1, .int x1), (2, .int x2), (3, .int x3), (4, .int x4), (5, .int x5)]) hx hb dX4_findFault_153 hl (by decide) rfl (fun ls hl => ?_)
        obtain ⟨k19, h⟩ := h
        exact L155 _ hK10 k19 _ _ _ _ _ _ _ _ _ _ _ h (lv_sub hl [1, 2, 3, 4, 5, 6, 0] rfl) hR hS
      · replace h := hb2 hc
        refine lv_aload_n hx hb dX4_findFault_95 rfl (lv_at hl 0 rfl) ?_
        refine lv_iload_n hx hb dX4_findFault_96 rfl (lv_at hl 1 rfl) ?_
        obtain ⟨fs67, hm66, h⟩ := h
        refine k_calli0 (va_runV (As := [.int x1]) (rest := []) ⟨hx, hb, hml, hown, hts⟩ (c_X4_character l G _ _ _ x0 x1 h) (cwV 1 hts gX4_findFault_X4_character rfl rfl rfl (by decide +kernel) ⟨Nat.le_of_ble_eq_true rfl, Nat.le_of_ble_eq_true rfl⟩) (k_preV (q := (RX4, TX4, 13)) hm66 rfl hR hS hA hE) rfl rfl hl.1 rfl (lv_room (Nat.le_of_ble_eq_true rfl)) dX4_findFault_97 ⟨Nat.zero_le _, Nat.zero_le _⟩) hR hS hA (fun r64 M65 H locs h hR hS => ?_)
        refine lv_bipush (v := (48 : Int32)) hx hb dX4_findFault_100 (by decide) ?_
        refine lv_bipush (v := (57 : Int32)) hx hb dX4_findFault_102 (by decide) ?_
        refine k_calli0 (va_runS (As := [.int r64, .int (48 : Int32), .int (57 : Int32)]) (rest := []) ⟨hx, hb, hml, hown, hts⟩ (c_X4_within l G _ _ _ r64 (48 : Int32) (57 : Int32) h) (va_cwS 3 hts gX4_findFault_X4_within rfl rfl rfl (by decide +kernel) ⟨Nat.le_of_ble_eq_true rfl, Nat.le_of_ble_eq_true rfl⟩) (k_preS hR hS hA hE) rfl rfl hl.1 rfl (lv_room (Nat.le_of_ble_eq_true rfl)) dX4_findFault_104 ⟨Nat.zero_le _, Nat.zero_le _⟩) hR hS hA (fun r68 M69 H locs h hR hS => ?_)
        obtain ⟨ha, hb2⟩ := h
        refine lv_if_eq (tgt := 152) hx hb dX4_findFault_107 (by decide) (fun hc => ?_) (fun hc => ?_)
        · replace h := ha hc
          refine lv_iconst (v := (0 : Int32)) hx hb dX4_findFault_152 (by decide) ?_
          refine lv_istore (lv' := [(6, .int (0 : Int32)), (0, .ref x0), (1, .int x1), (2, .int x2), (3, .int x3), (4, .int x4), (5, .int x5)]) hx hb dX4_findFault_153 hl (by decide) rfl (fun ls hl => ?_)
          obtain ⟨k71, h⟩ := h
          exact L155 _ hK10 k71 _ _ _ _ _ _ _ _ _ _ _ h (lv_sub hl [1, 2, 3, 4, 5, 6, 0] rfl) hR hS
        · replace h := hb2 hc
          refine lv_bipush (v := (10 : Int32)) hx hb dX4_findFault_110 (by decide) ?_
          refine lv_iload hx hb dX4_findFault_112 (lv_at hl 5 rfl) ?_
          refine lv_imul hx hb dX4_findFault_114 ?_
          refine lv_aload_n hx hb dX4_findFault_115 rfl (lv_at hl 0 rfl) ?_
          refine lv_iload_n hx hb dX4_findFault_116 rfl (lv_at hl 1 rfl) ?_
          obtain ⟨fs75, hm74, h⟩ := h
          refine k_calli0 (va_runV (As := [.int x1]) (rest := [.int ((10 : Int32) * x5)]) ⟨hx, hb, hml, hown, hts⟩ (c_X4_character l G _ _ _ x0 x1 h) (cwV 1 hts gX4_findFault_X4_character rfl rfl rfl (by decide +kernel) ⟨Nat.le_of_ble_eq_true rfl, Nat.le_of_ble_eq_true rfl⟩) (k_preV (q := (RX4, TX4, 13)) hm74 rfl hR hS hA hE) rfl rfl hl.1 rfl (lv_room (Nat.le_of_ble_eq_true rfl)) dX4_findFault_117 ⟨Nat.zero_le _, Nat.zero_le _⟩) hR hS hA (fun r72 M73 H locs h hR hS => ?_)
          refine lv_iadd hx hb dX4_findFault_120 ?_
          refine lv_bipush (v := (48 : Int32)) hx hb dX4_findFault_121 (by decide) ?_
          refine lv_isub hx hb dX4_findFault_123 ?_
          refine lv_sipush (v := (250 : Int32)) hx hb dX4_findFault_124 (by decide) ?_
          obtain ⟨ha, hb2⟩ := h
          refine lv_icmp_gt (tgt := 152) hx hb dX4_findFault_127 (by decide) (fun hc => ?_) (fun hc => ?_)
          · replace h := ha hc
            refine lv_iconst (v := (0 : Int32)) hx hb dX4_findFault_152 (by decide) ?_
            refine lv_istore (lv' := [(6, .int (0 : Int32)), (0, .ref x0), (1, .int x1), (2, .int x2), (3, .int x3), (4, .int x4), (5, .int x5)]) hx hb dX4_findFault_153 hl (by decide) rfl (fun ls hl => ?_)
            obtain ⟨k76, h⟩ := h
            exact L155 _ hK10 k76 _ _ _ _ _ _ _ _ _ _ _ h (lv_sub hl [1, 2, 3, 4, 5, 6, 0] rfl) hR hS
          · replace h := hb2 hc
            refine lv_bipush (v := (10 : Int32)) hx hb dX4_findFault_130 (by decide) ?_
            refine lv_iload hx hb dX4_findFault_132 (lv_at hl 5 rfl) ?_
            refine lv_imul hx hb dX4_findFault_134 ?_
            refine lv_aload_n hx hb dX4_findFault_135 rfl (lv_at hl 0 rfl) ?_
            refine lv_iload_n hx hb dX4_findFault_136 rfl (lv_at hl 1 rfl) ?_
            obtain ⟨fs80, hm79, h⟩ := h
            refine k_calli0 (va_runV (As := [.int x1]) (rest := [.int ((10 : Int32) * x5)]) ⟨hx, hb, hml, hown, hts⟩ (c_X4_character l G _ _ _ x0 x1 h) (cwV 1 hts gX4_findFault_X4_character rfl rfl rfl (by decide +kernel) ⟨Nat.le_of_ble_eq_true rfl, Nat.le_of_ble_eq_true rfl⟩) (k_preV (q := (RX4, TX4, 13)) hm79 rfl hR hS hA hE) rfl rfl hl.1 rfl (lv_room (Nat.le_of_ble_eq_true rfl)) dX4_findFault_137 ⟨Nat.zero_le _, Nat.zero_le _⟩) hR hS hA (fun r77 M78 H locs h hR hS => ?_)
            refine lv_iadd hx hb dX4_findFault_140 ?_
            refine lv_bipush (v := (48 : Int32)) hx hb dX4_findFault_141 (by decide) ?_
            refine lv_isub hx hb dX4_findFault_143 ?_
            refine lv_topi (fun y81 ey81 => ?_)
            replace h := h y81 ey81
            refine lv_istore (lv' := [(5, .int y81), (0, .ref x0), (1, .int x1), (2, .int x2), (3, .int x3), (4, .int x4)]) hx hb dX4_findFault_144 hl (by decide) rfl (fun ls hl => ?_)
            refine lv_iinc (v := (x1 + (1 : Int32))) (lv' := [(1, .int (x1 + (1 : Int32))), (5, .int y81), (0, .ref x0), (2, .int x2), (3, .int x3), (4, .int x4)]) hx hb dX4_findFault_146 hl (k := 2) rfl rfl (by decide) rfl (fun ls hl => ?_)
            refine lv_goto (tgt := 90) hx hb dX4_findFault_149 (by decide) ?_
            exact ih _ _ _ _ _ _ _ _ _ _ h (lv_sub hl [2, 0, 3, 4, 5, 1] rfl) hR hS
  have b60 : ∀ (K10 : Nat → Int32 → Int32 → Int32 → Int32 → k_M → Prop) (hK10 : ∀ (x0 : Nat) (x1 : Int32) (x2 : Int32) (x3 : Int32) (x4 : Int32) (M : k_M) (H : Heap) (locs : List Loc) (ls : Array Slot), K10 x0 x1 x2 x3 x4 M → lv_has ls 7 [(0, .ref x0), (1, .int x1), (2, .int x2), (3, .int x3), (4, .int x4)] → kR G M (kA M0 s.heap.size) H → va_S (kA M0 s.heap.size) s.heap H locs → W p l e (headSpec wsX4_findFault ({ frames := 1, cells := 0, slots := 0, locals := 22 })).room s m ([.ref p0] : List Value).toArray below meth c H locs 0 0 (MQ below (va_Qi post (kB G M0 s.heap.size) (kA M0 s.heap.size)) ([.ref p0] : List Value).toArray s 0 0 (kA M0 s.heap.size)) (F0 m 10 ls [])), ∀ (x0 : Nat) (x1 : Int32) (x2 : Int32) (x3 : Int32) (x4 : Int32) (M : k_M) (H : Heap) (locs : List Loc) (ls : Array Slot), wp_X4_findFault_b60 G post K10 x0 x1 x2 x3 x4 M → lv_has ls 7 [(0, .ref x0), (1, .int x1), (2, .int x2), (3, .int x3), (4, .int x4)] → kR G M (kA M0 s.heap.size) H → va_S (kA M0 s.heap.size) s.heap H locs → W p l e (headSpec wsX4_findFault ({ frames := 1, cells := 0, slots := 0, locals := 22 })).room s m ([.ref p0] : List Value).toArray below meth c H locs 0 0 (MQ below (va_Qi post (kB G M0 s.heap.size) (kA M0 s.heap.size)) ([.ref p0] : List Value).toArray s 0 0 (kA M0 s.heap.size)) (F0 m 60 ls []) := by
    intro K10 hK10 x0 x1 x2 x3 x4 M H locs ls h hl hR hS
    refine lv_aload_n hx hb dX4_findFault_60 rfl (lv_at hl 0 rfl) ?_
    refine lv_iload_n hx hb dX4_findFault_61 rfl (lv_at hl 1 rfl) ?_
    obtain ⟨fs10, hm9, h⟩ := h
    refine k_calli0 (va_runV (As := [.int x1]) (rest := []) ⟨hx, hb, hml, hown, hts⟩ (c_X4_character l G _ _ _ x0 x1 h) (cwV 1 hts gX4_findFault_X4_character rfl rfl rfl (by decide +kernel) ⟨Nat.le_of_ble_eq_true rfl, Nat.le_of_ble_eq_true rfl⟩) (k_preV (q := (RX4, TX4, 13)) hm9 rfl hR hS hA hE) rfl rfl hl.1 rfl (lv_room (Nat.le_of_ble_eq_true rfl)) dX4_findFault_62 ⟨Nat.zero_le _, Nat.zero_le _⟩) hR hS hA (fun r7 M8 H locs h hR hS => ?_)
    refine lv_bipush (v := (48 : Int32)) hx hb dX4_findFault_65 (by decide) ?_
    refine lv_bipush (v := (57 : Int32)) hx hb dX4_findFault_67 (by decide) ?_
    refine k_calli0 (va_runS (As := [.int r7, .int (48 : Int32), .int (57 : Int32)]) (rest := []) ⟨hx, hb, hml, hown, hts⟩ (c_X4_within l G _ _ _ r7 (48 : Int32) (57 : Int32) h) (va_cwS 3 hts gX4_findFault_X4_within rfl rfl rfl (by decide +kernel) ⟨Nat.le_of_ble_eq_true rfl, Nat.le_of_ble_eq_true rfl⟩) (k_preS hR hS hA hE) rfl rfl hl.1 rfl (lv_room (Nat.le_of_ble_eq_true rfl)) dX4_findFault_69 ⟨Nat.zero_le _, Nat.zero_le _⟩) hR hS hA (fun r11 M12 H locs h hR hS => ?_)
    obtain ⟨ha, hb2⟩ := h
    refine lv_if_ne (tgt := 77) hx hb dX4_findFault_72 (by decide) (fun hc => ?_) (fun hc => ?_)
    · replace h := ha hc
      refine lv_aload_n hx hb dX4_findFault_77 rfl (lv_at hl 0 rfl) ?_
      refine lv_iload_n hx hb dX4_findFault_78 rfl (lv_at hl 1 rfl) ?_
      obtain ⟨fs17, hm16, h⟩ := h
      refine k_calli0 (va_runV (As := [.int x1]) (rest := []) ⟨hx, hb, hml, hown, hts⟩ (c_X4_character l G _ _ _ x0 x1 h) (cwV 1 hts gX4_findFault_X4_character rfl rfl rfl (by decide +kernel) ⟨Nat.le_of_ble_eq_true rfl, Nat.le_of_ble_eq_true rfl⟩) (k_preV (q := (RX4, TX4, 13)) hm16 rfl hR hS hA hE) rfl rfl hl.1 rfl (lv_room (Nat.le_of_ble_eq_true rfl)) dX4_findFault_79 ⟨Nat.zero_le _, Nat.zero_le _⟩) hR hS hA (fun r14 M15 H locs h hR hS => ?_)
      refine lv_bipush (v := (48 : Int32)) hx hb dX4_findFault_82 (by decide) ?_
      refine lv_isub hx hb dX4_findFault_84 ?_
      refine lv_istore (lv' := [(5, .int (r14 - (48 : Int32))), (0, .ref x0), (1, .int x1), (2, .int x2), (3, .int x3), (4, .int x4)]) hx hb dX4_findFault_85 hl (by decide) rfl (fun ls hl => ?_)
      refine lv_iinc (v := (x1 + (1 : Int32))) (lv' := [(1, .int (x1 + (1 : Int32))), (5, .int (r14 - (48 : Int32))), (0, .ref x0), (2, .int x2), (3, .int x3), (4, .int x4)]) hx hb dX4_findFault_87 hl (k := 2) rfl rfl (by decide) rfl (fun ls hl => ?_)
      obtain ⟨k18, h⟩ := h
      exact L90 _ hK10 k18 _ _ _ _ _ _ _ _ _ _ h (lv_sub hl [2, 0, 3, 4, 5, 1] rfl) hR hS
    · replace h := hb2 hc
      refine lv_iload_n hx hb dX4_findFault_75 rfl (lv_at hl 1 rfl) ?_
      exact k_reti hx hb hr hlocks rfl hR hS h dX4_findFault_76
  have L16 : ∀ (K10 : Nat → Int32 → Int32 → Int32 → Int32 → k_M → Prop) (hK10 : ∀ (x0 : Nat) (x1 : Int32) (x2 : Int32) (x3 : Int32) (x4 : Int32) (M : k_M) (H : Heap) (locs : List Loc) (ls : Array Slot), K10 x0 x1 x2 x3 x4 M → lv_has ls 7 [(0, .ref x0), (1, .int x1), (2, .int x2), (3, .int x3), (4, .int x4)] → kR G M (kA M0 s.heap.size) H → va_S (kA M0 s.heap.size) s.heap H locs → W p l e (headSpec wsX4_findFault ({ frames := 1, cells := 0, slots := 0, locals := 22 })).room s m ([.ref p0] : List Value).toArray below meth c H locs 0 0 (MQ below (va_Qi post (kB G M0 s.heap.size) (kA M0 s.heap.size)) ([.ref p0] : List Value).toArray s 0 0 (kA M0 s.heap.size)) (F0 m 10 ls [])) (n : Nat), ∀ (x0 : Nat) (x1 : Int32) (x2 : Int32) (x3 : Int32) (x4 : Int32) (M : k_M) (H : Heap) (locs : List Loc) (ls : Array Slot), wp_X4_findFault_L16 G post K10 n x0 x1 x2 x3 x4 M → lv_has ls 7 [(0, .ref x0), (1, .int x1), (2, .int x2), (3, .int x3), (4, .int x4)] → kR G M (kA M0 s.heap.size) H → va_S (kA M0 s.heap.size) s.heap H locs → W p l e (headSpec wsX4_findFault ({ frames := 1, cells := 0, slots := 0, locals := 22 })).room s m ([.ref p0] : List Value).toArray below meth c H locs 0 0 (MQ below (va_Qi post (kB G M0 s.heap.size) (kA M0 s.heap.size)) ([.ref p0] : List Value).toArray s 0 0 (kA M0 s.heap.size)) (F0 m 16 ls []) := by
    intro K10 hK10 n
    induction n with
    | zero =>
      intro  x0 x1 x2 x3 x4 M H locs ls h
      exact False.elim h
    | succ n ih =>
      intro  x0 x1 x2 x3 x4 M H locs ls h hl hR hS
      refine lv_iload_n hx hb dX4_findFault_16 rfl (lv_at hl 3 rfl) ?_
      refine lv_iconst (v := (1 : Int32)) hx hb dX4_findFault_17 (by decide) ?_
      obtain ⟨ha, hb2⟩ := h
      refine lv_icmp_le (tgt := 60) hx hb dX4_findFault_18 (by decide) (fun hc => ?_) (fun hc => ?_)
      · replace h := ha hc
        exact b60 _ hK10 _ _ _ _ _ _ _ _ _ h (lv_sub hl [0, 1, 2, 3, 4] rfl) hR hS
      · replace h := hb2 hc
        refine lv_aload_n hx hb dX4_findFault_21 rfl (lv_at hl 0 rfl) ?_
        refine lv_iload_n hx hb dX4_findFault_22 rfl (lv_at hl 1 rfl) ?_
        obtain ⟨fs85, hm84, h⟩ := h
        refine k_calli0 (va_runV (As := [.int x1]) (rest := []) ⟨hx, hb, hml, hown, hts⟩ (c_X4_character l G _ _ _ x0 x1 h) (cwV 1 hts gX4_findFault_X4_character rfl rfl rfl (by decide +kernel) ⟨Nat.le_of_ble_eq_true rfl, Nat.le_of_ble_eq_true rfl⟩) (k_preV (q := (RX4, TX4, 13)) hm84 rfl hR hS hA hE) rfl rfl hl.1 rfl (lv_room (Nat.le_of_ble_eq_true rfl)) dX4_findFault_23 ⟨Nat.zero_le _, Nat.zero_le _⟩) hR hS hA (fun r82 M83 H locs h hR hS => ?_)
        refine lv_bipush (v := (40 : Int32)) hx hb dX4_findFault_26 (by decide) ?_
        obtain ⟨ha, hb2⟩ := h
        refine lv_icmp_ne (tgt := 60) hx hb dX4_findFault_28 (by decide) (fun hc => ?_) (fun hc => ?_)
        · replace h := ha hc
          exact b60 _ hK10 _ _ _ _ _ _ _ _ _ h (lv_sub hl [0, 1, 2, 3, 4] rfl) hR hS
        · replace h := hb2 hc
          refine lv_aload_n hx hb dX4_findFault_31 rfl (lv_at hl 0 rfl) ?_
          obtain ⟨fs86, v87, hm88, hv89, h⟩ := h
          refine k_get (ci := 5) (C := RX4) (T := TX4) (N := 13) hx hb hts in_X4_findFault_X4 hown hK hR hm88 rfl 9 (by decide) hw3 (fun _ h9 => h9) hv89 dX4_findFault_32 ?_
          refine lv_iload hx hb dX4_findFault_35 (lv_at hl 4 rfl) ?_
          refine lv_iload_n hx hb dX4_findFault_37 rfl (lv_at hl 3 rfl) ?_
          obtain ⟨n90, f91, hm93, hv94, h⟩ := h
          replace h := h _ rfl
          refine k_iast hx hb hK hR hS hm93 hv94 dX4_findFault_38 (fun H locs hR hS => ?_)
          refine lv_aload_n hx hb dX4_findFault_39 rfl (lv_at hl 0 rfl) ?_
          obtain ⟨fs95, v96, hm97, hv98, h⟩ := h
          refine k_get (ci := 5) (C := RX4) (T := TX4) (N := 13) hx hb hts in_X4_findFault_X4 hown hK hR hm97 rfl 10 (by decide) hw2 (fun _ h9 => h9) hv98 dX4_findFault_40 ?_
          refine lv_iload hx hb dX4_findFault_43 (lv_at hl 4 rfl) ?_
          refine lv_iconst (v := (0 : Int32)) hx hb dX4_findFault_45 (by decide) ?_
          obtain ⟨n99, f100, hm102, hv103, h⟩ := h
          replace h := h _ rfl
          refine k_iast hx hb hK hR hS hm102 hv103 dX4_findFault_46 (fun H locs hR hS => ?_)
          refine lv_iinc (v := (x4 + (1 : Int32))) (lv' := [(4, .int (x4 + (1 : Int32))), (0, .ref x0), (1, .int x1), (2, .int x2), (3, .int x3)]) hx hb dX4_findFault_47 hl (k := 4) rfl rfl (by decide) rfl (fun ls hl => ?_)
          refine lv_iload_n hx hb dX4_findFault_50 rfl (lv_at hl 4 rfl) ?_
          refine lv_iconst (v := (2 : Int32)) hx hb dX4_findFault_51 (by decide) ?_
          refine lv_idiv hx hb dX4_findFault_52 (by decide) ?_
          refine lv_istore_n (lv' := [(3, .int (x3 / (2 : Int32))), (4, .int (x4 + (1 : Int32))), (0, .ref x0), (1, .int x1), (2, .int x2)]) hx hb dX4_findFault_53 rfl hl (by decide) rfl (fun ls hl => ?_)
          refine lv_iinc (v := (x1 + (1 : Int32))) (lv' := [(1, .int (x1 + (1 : Int32))), (3, .int (x3 / (2 : Int32))), (4, .int (x4 + (1 : Int32))), (0, .ref x0), (2, .int x2)]) hx hb dX4_findFault_54 hl (k := 3) rfl rfl (by decide) rfl (fun ls hl => ?_)
          refine lv_goto (tgt := 16) hx hb dX4_findFault_57 (by decide) ?_
          exact ih _ _ _ _ _ _ _ _ _ h (lv_sub hl [3, 0, 4, 1, 2] rfl) hR hS
  have L10 : ∀ (n : Nat), ∀ (x0 : Nat) (x1 : Int32) (x2 : Int32) (x3 : Int32) (x4 : Int32) (M : k_M) (H : Heap) (locs : List Loc) (ls : Array Slot), wp_X4_findFault_L10 G post n x0 x1 x2 x3 x4 M → lv_has ls 7 [(0, .ref x0), (1, .int x1), (2, .int x2), (3, .int x3), (4, .int x4)] → kR G M (kA M0 s.heap.size) H → va_S (kA M0 s.heap.size) s.heap H locs → W p l e (headSpec wsX4_findFault ({ frames := 1, cells := 0, slots := 0, locals := 22 })).room s m ([.ref p0] : List Value).toArray below meth c H locs 0 0 (MQ below (va_Qi post (kB G M0 s.heap.size) (kA M0 s.heap.size)) ([.ref p0] : List Value).toArray s 0 0 (kA M0 s.heap.size)) (F0 m 10 ls []) := by
    intro n
    induction n with
    | zero =>
      intro  x0 x1 x2 x3 x4 M H locs ls h
      exact False.elim h
    | succ n ih =>
      intro  x0 x1 x2 x3 x4 M H locs ls h hl hR hS
      refine lv_iload_n hx hb dX4_findFault_10 rfl (lv_at hl 2 rfl) ?_
      refine lv_bipush (v := (16 : Int32)) hx hb dX4_findFault_11 (by decide) ?_
      obtain ⟨ha, hb2⟩ := h
      refine lv_icmp_ge (tgt := 268) hx hb dX4_findFault_13 (by decide) (fun hc => ?_) (fun hc => ?_)
      · replace h := ha hc
        refine lv_iload_n hx hb dX4_findFault_268 rfl (lv_at hl 1 rfl) ?_
        refine lv_aload_n hx hb dX4_findFault_269 rfl (lv_at hl 0 rfl) ?_
        obtain ⟨fs2, v3, hm4, hv5, h⟩ := h
        refine k_get (ci := 5) (C := RX4) (T := TX4) (N := 13) hx hb hts in_X4_findFault_X4 hown hK hR hm4 rfl 6 (by decide) hw1 (fun _ h9 => h9) hv5 dX4_findFault_270 ?_
        obtain ⟨ha, hb2⟩ := h
        refine lv_icmp_ne (tgt := 281) hx hb dX4_findFault_273 (by decide) (fun hc => ?_) (fun hc => ?_)
        · replace h := ha hc
          refine lv_iload_n hx hb dX4_findFault_281 rfl (lv_at hl 1 rfl) ?_
          exact k_reti hx hb hr hlocks rfl hR hS h dX4_findFault_282
        · replace h := hb2 hc
          refine lv_bipush (v := (-6 : Int32)) hx hb dX4_findFault_276 (by decide) ?_
          refine lv_goto (tgt := 282) hx hb dX4_findFault_278 (by decide) ?_
          exact k_reti hx hb hr hlocks rfl hR hS h dX4_findFault_282
      · replace h := hb2 hc
        obtain ⟨k6, h⟩ := h
        exact L16 _ ih k6 _ _ _ _ _ _ _ _ _ h (lv_sub hl [0, 1, 2, 3, 4] rfl) hR hS
  have hl := lv_entry ([.ref p0]) (n := 7) (Nat.le_of_ble_eq_true rfl)
  rw [lg_entry_eq]
  generalize (lg_sl ([.ref p0]) ++ List.replicate (7 - (lg_sl ([.ref p0])).length) Slot.unset).toArray = ls at hl ⊢
  have hl : lv_has ls 7 [(0, .ref p0)] := hl
  have hR0 := hR
  refine lv_iconst (v := (0 : Int32)) hx hb dX4_findFault_0 (by decide) ?_
  refine lv_istore_n (lv' := [(1, .int (0 : Int32)), (0, .ref p0)]) hx hb dX4_findFault_1 rfl hl (by decide) rfl (fun ls hl => ?_)
  refine lv_iconst (v := (0 : Int32)) hx hb dX4_findFault_2 (by decide) ?_
  refine lv_istore_n (lv' := [(2, .int (0 : Int32)), (1, .int (0 : Int32)), (0, .ref p0)]) hx hb dX4_findFault_3 rfl hl (by decide) rfl (fun ls hl => ?_)
  refine lv_bipush (v := (16 : Int32)) hx hb dX4_findFault_4 (by decide) ?_
  refine lv_istore_n (lv' := [(3, .int (16 : Int32)), (2, .int (0 : Int32)), (1, .int (0 : Int32)), (0, .ref p0)]) hx hb dX4_findFault_6 rfl hl (by decide) rfl (fun ls hl => ?_)
  refine lv_iconst (v := (0 : Int32)) hx hb dX4_findFault_7 (by decide) ?_
  refine lv_istore (lv' := [(4, .int (0 : Int32)), (3, .int (16 : Int32)), (2, .int (0 : Int32)), (1, .int (0 : Int32)), (0, .ref p0)]) hx hb dX4_findFault_8 hl (by decide) rfl (fun ls hl => ?_)
  obtain ⟨k1, h⟩ := h
  exact L10 k1 _ _ _ _ _ _ _ _ _ h (lv_sub hl [4, 3, 2, 1, 0] rfl) hR hS

def wp_X4_orderToPad (G : k_G) (post : Int32 → k_M → Prop) (p0 : Nat) (p1 : Int32) (M0 : k_M) : Prop :=
  (∃ fs4, M0 p0 = some (kO 5 fs4) ∧ wp_X4_isHelper G (fun r1 M2 =>
  ((¬ r1 = 0 →
  (∃ fs8, M2 p0 = some (kO 5 fs8) ∧ wp_X4_findFault G (fun r5 M6 =>
    ((¬ r5 = (-6 : Int32) →
    post (-3 : Int32) M6) ∧
    (r5 = (-6 : Int32) →
    (∃ fs9 v10, M6 p0 = some (kO 5 fs9) ∧ fs9[0]? = some (.ref v10) ∧
      wp_X4_helperAt G (fun r13 M14 =>
      (∃ fs16 v17, M14 p0 = some (kO 5 fs16) ∧ fs16[8]? = some (.ref v17) ∧
      wp_X4_orderOf G (fun r20 M21 =>
      post r20 M21) v10 r13 v17 (0 : Int32) M14)) p1 M6)))) p0 M2)) ∧
  (r1 = 0 →
  post (-1 : Int32) M2))) p0 p1 M0)
theorem in_X4_orderToPad_X4 : ∀ w ∈ wsX40, w ∈ wsX4_orderToPad := by decide +kernel
set_option maxHeartbeats 4000000 in
set_option maxRecDepth 100000 in
theorem c_X4_orderToPad (l : Launch) (G : k_G) (M0 : k_M) (sz : Nat) (post : Int32 → k_M → Prop) (p0 : Nat) (p1 : Int32) (h : wp_X4_orderToPad G post p0 p1 M0) : Met l yX4_orderToPad wsX4_orderToPad ({ frames := 2, cells := 0, slots := 0, locals := 48 }) (va_Pc [.ref p0, .int p1] (kPre G M0 sz)) (va_Qi post (kB G M0 sz) (kA M0 sz)) 0 0 (kA M0 sz) := by
  refine Met.ofW (cc := cX4_orderToPad) (maxL := 2) (ret := (some .int)) (by decide) rfl ?_
  intro p e s m args below meth c s₁ B hml hv
  obtain ⟨rfl, hsz, hR, hE⟩ := hv
  have hx := B.exec
  have hb := B.bytes
  have hr := B.returns
  have hts := atoms_spec (ws := wsX4_orderToPad) B.pre
  have hown : s.vm.findClass RX4 = some m.cls := findClass_of_methodNamed B.named
  have hlocks := B.notSynchronized
  subst hsz
  have hK := hE.1
  have hA : ∀ q, s.heap.size ≤ q → kA M0 s.heap.size q := kA.new
  have hS : va_S (kA M0 s.heap.size) s.heap s.heap [] := va_S.rf
  have hw1 := hts (.fieldLink RX4 7 "ForkedStampsModel" "state" "[I") (by decide +kernel)
  have hw2 := hts (.fieldLink RX4 28 "ForkedStampsModel" "told" "[I") (by decide +kernel)
  have hl := lv_entry ([.ref p0, .int p1]) (n := 2) (Nat.le_of_ble_eq_true rfl)
  rw [lg_entry_eq]
  generalize (lg_sl ([.ref p0, .int p1]) ++ List.replicate (2 - (lg_sl ([.ref p0, .int p1])).length) Slot.unset).toArray = ls at hl ⊢
  have hl : lv_has ls 2 [(0, .ref p0), (1, .int p1)] := hl
  have hR0 := hR
  refine lv_aload_n hx hb dX4_orderToPad_0 rfl (lv_at hl 0 rfl) ?_
  refine lv_iload_n hx hb dX4_orderToPad_1 rfl (lv_at hl 1 rfl) ?_
  obtain ⟨fs4, hm3, h⟩ := h
  refine k_calli0 (va_runV (As := [.int p1]) (rest := []) ⟨hx, hb, hml, hown, hts⟩ (c_X4_isHelper l G _ _ _ p0 p1 h) (cwV 1 hts gX4_orderToPad_X4_isHelper rfl rfl rfl (by decide +kernel) ⟨Nat.le_of_ble_eq_true rfl, Nat.le_of_ble_eq_true rfl⟩) (k_preV (q := (RX4, TX4, 13)) hm3 rfl hR hS hA hE) rfl rfl hl.1 rfl (lv_room (Nat.le_of_ble_eq_true rfl)) dX4_orderToPad_2 ⟨Nat.zero_le _, Nat.zero_le _⟩) hR hS hA (fun r1 M2 H locs h hR hS => ?_)
  obtain ⟨ha, hb2⟩ := h
  refine lv_if_ne (tgt := 10) hx hb dX4_orderToPad_5 (by decide) (fun hc => ?_) (fun hc => ?_)
  · replace h := ha hc
    refine lv_aload_n hx hb dX4_orderToPad_10 rfl (lv_at hl 0 rfl) ?_
    obtain ⟨fs8, hm7, h⟩ := h
    refine k_calli0 (va_runV (As := []) (rest := []) ⟨hx, hb, hml, hown, hts⟩ (c_X4_findFault l G _ _ _ p0 h) (cwV 0 hts gX4_orderToPad_X4_findFault rfl rfl rfl (by decide +kernel) ⟨Nat.le_of_ble_eq_true rfl, Nat.le_of_ble_eq_true rfl⟩) (k_preV (q := (RX4, TX4, 13)) hm7 rfl hR hS hA hE) rfl rfl hl.1 rfl (lv_room (Nat.le_of_ble_eq_true rfl)) dX4_orderToPad_11 ⟨Nat.zero_le _, Nat.zero_le _⟩) hR hS hA (fun r5 M6 H locs h hR hS => ?_)
    refine lv_bipush (v := (-6 : Int32)) hx hb dX4_orderToPad_14 (by decide) ?_
    obtain ⟨ha, hb2⟩ := h
    refine lv_icmp_ne (tgt := 38) hx hb dX4_orderToPad_16 (by decide) (fun hc => ?_) (fun hc => ?_)
    · replace h := ha hc
      refine lv_bipush (v := (-3 : Int32)) hx hb dX4_orderToPad_38 (by decide) ?_
      exact k_reti hx hb hr hlocks rfl hR hS h dX4_orderToPad_40
    · replace h := hb2 hc
      refine lv_aload_n hx hb dX4_orderToPad_19 rfl (lv_at hl 0 rfl) ?_
      obtain ⟨fs9, v10, hm11, hv12, h⟩ := h
      refine k_get (ci := 5) (C := RX4) (T := TX4) (N := 13) hx hb hts in_X4_orderToPad_X4 hown hK hR hm11 rfl 0 (by decide) hw1 (fun _ h9 => h9) hv12 dX4_orderToPad_20 ?_
      refine lv_iload_n hx hb dX4_orderToPad_23 rfl (lv_at hl 1 rfl) ?_
      refine k_calli0 (va_runS (As := [.int p1]) (rest := [.ref v10]) ⟨hx, hb, hml, hown, hts⟩ (c_X4_helperAt l G _ _ _ p1 h) (va_cwS 1 hts gX4_orderToPad_X4_helperAt rfl rfl rfl (by decide +kernel) ⟨Nat.le_of_ble_eq_true rfl, Nat.le_of_ble_eq_true rfl⟩) (k_preS hR hS hA hE) rfl rfl hl.1 rfl (lv_room (Nat.le_of_ble_eq_true rfl)) dX4_orderToPad_24 ⟨Nat.zero_le _, Nat.zero_le _⟩) hR hS hA (fun r13 M14 H locs h hR hS => ?_)
      refine lv_aload_n hx hb dX4_orderToPad_27 rfl (lv_at hl 0 rfl) ?_
      obtain ⟨fs16, v17, hm18, hv19, h⟩ := h
      refine k_get (ci := 5) (C := RX4) (T := TX4) (N := 13) hx hb hts in_X4_orderToPad_X4 hown hK hR hm18 rfl 8 (by decide) hw2 (fun _ h9 => h9) hv19 dX4_orderToPad_28 ?_
      refine lv_iconst (v := (0 : Int32)) hx hb dX4_orderToPad_31 (by decide) ?_
      refine k_calli0 (va_runS (As := [.ref v10, .int r13, .ref v17, .int (0 : Int32)]) (rest := []) ⟨hx, hb, hml, hown, hts⟩ (c_X4_orderOf l G _ _ _ v10 r13 v17 (0 : Int32) h) (va_cwS 4 hts gX4_orderToPad_X4_orderOf rfl rfl rfl (by decide +kernel) ⟨Nat.le_of_ble_eq_true rfl, Nat.le_of_ble_eq_true rfl⟩) (k_preS hR hS hA hE) rfl rfl hl.1 rfl (lv_room (Nat.le_of_ble_eq_true rfl)) dX4_orderToPad_32 ⟨Nat.zero_le _, Nat.zero_le _⟩) hR hS hA (fun r20 M21 H locs h hR hS => ?_)
      refine lv_goto (tgt := 40) hx hb dX4_orderToPad_35 (by decide) ?_
      exact k_reti hx hb hr hlocks rfl hR hS h dX4_orderToPad_40
  · replace h := hb2 hc
    refine lv_iconst (v := (-1 : Int32)) hx hb dX4_orderToPad_8 (by decide) ?_
    exact k_reti hx hb hr hlocks rfl hR hS h dX4_orderToPad_9

def wp_X4_printed (G : k_G) (post : Int32 → k_M → Prop) (p0 : Nat) (p1 : Int32) (p2 : Int32) (M0 : k_M) : Prop :=
  (∃ fs4, M0 p0 = some (kO 5 fs4) ∧ wp_X4_isHelper G (fun r1 M2 =>
  ((¬ r1 = 0 →
  wp_X4_helperAt G (fun r5 M6 =>
    (∃ fs11, M6 p0 = some (kO 5 fs11) ∧ wp_X4_print G (fun M9 =>
    (∃ fs12 v13, M9 p0 = some (kO 5 fs12) ∧ fs12[12]? = some (.int v13) ∧
    wp_X4_within G (fun r16 M17 =>
    ((r16 = 0 →
    post (-1 : Int32) M17) ∧
    (¬ r16 = 0 →
    (∃ fs19 v20, M17 p0 = some (kO 5 fs19) ∧ fs19[11]? = some (.ref v20) ∧
      (∃ n23 f24, M17 v20 = some (kI G n23 f24) ∧ vp_in p2 n23 ∧
      post (f24 (p2).toNatClampNeg) M17))))) p2 (0 : Int32) (v13 - (1 : Int32)) M9)) p0 r5 M6)) p1 M2) ∧
  (r1 = 0 →
  post (-1 : Int32) M2))) p0 p1 M0)
theorem in_X4_printed_X4 : ∀ w ∈ wsX40, w ∈ wsX4_printed := by decide +kernel
set_option maxHeartbeats 4000000 in
set_option maxRecDepth 100000 in
theorem c_X4_printed (l : Launch) (G : k_G) (M0 : k_M) (sz : Nat) (post : Int32 → k_M → Prop) (p0 : Nat) (p1 : Int32) (p2 : Int32) (h : wp_X4_printed G post p0 p1 p2 M0) : Met l yX4_printed wsX4_printed ({ frames := 3, cells := 0, slots := 0, locals := 66 }) (va_Pc [.ref p0, .int p1, .int p2] (kPre G M0 sz)) (va_Qi post (kB G M0 sz) (kA M0 sz)) 0 0 (kA M0 sz) := by
  refine Met.ofW (cc := cX4_printed) (maxL := 3) (ret := (some .int)) (by decide) rfl ?_
  intro p e s m args below meth c s₁ B hml hv
  obtain ⟨rfl, hsz, hR, hE⟩ := hv
  have hx := B.exec
  have hb := B.bytes
  have hr := B.returns
  have hts := atoms_spec (ws := wsX4_printed) B.pre
  have hown : s.vm.findClass RX4 = some m.cls := findClass_of_methodNamed B.named
  have hlocks := B.notSynchronized
  subst hsz
  have hK := hE.1
  have hA : ∀ q, s.heap.size ≤ q → kA M0 s.heap.size q := kA.new
  have hS : va_S (kA M0 s.heap.size) s.heap s.heap [] := va_S.rf
  have hw1 := hts (.fieldLink RX4 78 "ForkedStampsModel" "textLength" "I") (by decide +kernel)
  have hw2 := hts (.fieldLink RX4 37 "ForkedStampsModel" "text" "[I") (by decide +kernel)
  have hl := lv_entry ([.ref p0, .int p1, .int p2]) (n := 3) (Nat.le_of_ble_eq_true rfl)
  rw [lg_entry_eq]
  generalize (lg_sl ([.ref p0, .int p1, .int p2]) ++ List.replicate (3 - (lg_sl ([.ref p0, .int p1, .int p2])).length) Slot.unset).toArray = ls at hl ⊢
  have hl : lv_has ls 3 [(0, .ref p0), (1, .int p1), (2, .int p2)] := hl
  have hR0 := hR
  refine lv_aload_n hx hb dX4_printed_0 rfl (lv_at hl 0 rfl) ?_
  refine lv_iload_n hx hb dX4_printed_1 rfl (lv_at hl 1 rfl) ?_
  obtain ⟨fs4, hm3, h⟩ := h
  refine k_calli0 (va_runV (As := [.int p1]) (rest := []) ⟨hx, hb, hml, hown, hts⟩ (c_X4_isHelper l G _ _ _ p0 p1 h) (cwV 1 hts gX4_printed_X4_isHelper rfl rfl rfl (by decide +kernel) ⟨Nat.le_of_ble_eq_true rfl, Nat.le_of_ble_eq_true rfl⟩) (k_preV (q := (RX4, TX4, 13)) hm3 rfl hR hS hA hE) rfl rfl hl.1 rfl (lv_room (Nat.le_of_ble_eq_true rfl)) dX4_printed_2 ⟨Nat.zero_le _, Nat.zero_le _⟩) hR hS hA (fun r1 M2 H locs h hR hS => ?_)
  obtain ⟨ha, hb2⟩ := h
  refine lv_if_ne (tgt := 10) hx hb dX4_printed_5 (by decide) (fun hc => ?_) (fun hc => ?_)
  · replace h := ha hc
    refine lv_aload_n hx hb dX4_printed_10 rfl (lv_at hl 0 rfl) ?_
    refine lv_iload_n hx hb dX4_printed_11 rfl (lv_at hl 1 rfl) ?_
    refine k_calli0 (va_runS (As := [.int p1]) (rest := [.ref p0]) ⟨hx, hb, hml, hown, hts⟩ (c_X4_helperAt l G _ _ _ p1 h) (va_cwS 1 hts gX4_printed_X4_helperAt rfl rfl rfl (by decide +kernel) ⟨Nat.le_of_ble_eq_true rfl, Nat.le_of_ble_eq_true rfl⟩) (k_preS hR hS hA hE) rfl rfl hl.1 rfl (lv_room (Nat.le_of_ble_eq_true rfl)) dX4_printed_12 ⟨Nat.zero_le _, Nat.zero_le _⟩) hR hS hA (fun r5 M6 H locs h hR hS => ?_)
    obtain ⟨fs11, hm10, h⟩ := h
    refine k_callv0 (va_runV (As := [.int r5]) (rest := []) ⟨hx, hb, hml, hown, hts⟩ (c_X4_print l G _ _ _ p0 r5 h) (cwV 1 hts gX4_printed_X4_print rfl rfl rfl (by decide +kernel) ⟨Nat.le_of_ble_eq_true rfl, Nat.le_of_ble_eq_true rfl⟩) (k_preV (q := (RX4, TX4, 13)) hm10 rfl hR hS hA hE) rfl rfl hl.1 rfl (lv_room (Nat.le_of_ble_eq_true rfl)) dX4_printed_15 ⟨Nat.zero_le _, Nat.zero_le _⟩) hR hS hA (fun M9 H locs h hR hS => ?_)
    refine lv_iload_n hx hb dX4_printed_18 rfl (lv_at hl 2 rfl) ?_
    refine lv_iconst (v := (0 : Int32)) hx hb dX4_printed_19 (by decide) ?_
    refine lv_aload_n hx hb dX4_printed_20 rfl (lv_at hl 0 rfl) ?_
    obtain ⟨fs12, v13, hm14, hv15, h⟩ := h
    refine k_get (ci := 5) (C := RX4) (T := TX4) (N := 13) hx hb hts in_X4_printed_X4 hown hK hR hm14 rfl 12 (by decide) hw1 (fun _ h9 => h9) hv15 dX4_printed_21 ?_
    refine lv_iconst (v := (1 : Int32)) hx hb dX4_printed_24 (by decide) ?_
    refine lv_isub hx hb dX4_printed_25 ?_
    refine k_calli0 (va_runS (As := [.int p2, .int (0 : Int32), .int (v13 - (1 : Int32))]) (rest := []) ⟨hx, hb, hml, hown, hts⟩ (c_X4_within l G _ _ _ p2 (0 : Int32) (v13 - (1 : Int32)) h) (va_cwS 3 hts gX4_printed_X4_within rfl rfl rfl (by decide +kernel) ⟨Nat.le_of_ble_eq_true rfl, Nat.le_of_ble_eq_true rfl⟩) (k_preS hR hS hA hE) rfl rfl hl.1 rfl (lv_room (Nat.le_of_ble_eq_true rfl)) dX4_printed_26 ⟨Nat.zero_le _, Nat.zero_le _⟩) hR hS hA (fun r16 M17 H locs h hR hS => ?_)
    obtain ⟨ha, hb2⟩ := h
    refine lv_if_eq (tgt := 41) hx hb dX4_printed_29 (by decide) (fun hc => ?_) (fun hc => ?_)
    · replace h := ha hc
      refine lv_iconst (v := (-1 : Int32)) hx hb dX4_printed_41 (by decide) ?_
      exact k_reti hx hb hr hlocks rfl hR hS h dX4_printed_42
    · replace h := hb2 hc
      refine lv_aload_n hx hb dX4_printed_32 rfl (lv_at hl 0 rfl) ?_
      obtain ⟨fs19, v20, hm21, hv22, h⟩ := h
      refine k_get (ci := 5) (C := RX4) (T := TX4) (N := 13) hx hb hts in_X4_printed_X4 hown hK hR hm21 rfl 11 (by decide) hw2 (fun _ h9 => h9) hv22 dX4_printed_33 ?_
      refine lv_iload_n hx hb dX4_printed_36 rfl (lv_at hl 2 rfl) ?_
      obtain ⟨n23, f24, hm25, hv26, h⟩ := h
      refine k_iald hx hb hK hR hm25 hv26 dX4_printed_37 ?_
      refine lv_goto (tgt := 42) hx hb dX4_printed_38 (by decide) ?_
      exact k_reti hx hb hr hlocks rfl hR hS h dX4_printed_42
  · replace h := hb2 hc
    refine lv_iconst (v := (-1 : Int32)) hx hb dX4_printed_8 (by decide) ?_
    exact k_reti hx hb hr hlocks rfl hR hS h dX4_printed_9

def wp_X4_ifReceive (G : k_G) (post : Int32 → k_M → Prop) (p0 : Nat) (p1 : Int32) (p2 : Int32) (p3 : Int32) (M0 : k_M) : Prop :=
  (∃ fs4, M0 p0 = some (kO 5 fs4) ∧ wp_X4_isHelper G (fun r1 M2 =>
  ((r1 = 0 →
  post (-1 : Int32) M2) ∧
  (¬ r1 = 0 →
  (∃ fs8, M2 p0 = some (kO 5 fs8) ∧ wp_X4_isMessage G (fun r5 M6 =>
    ((¬ r5 = 0 →
    (∃ fs9 v10, M6 p0 = some (kO 5 fs9) ∧ fs9[0]? = some (.ref v10) ∧
      wp_X4_helperAt G (fun r13 M14 =>
      (∃ fs16 v17, M14 p0 = some (kO 5 fs16) ∧ fs16[7]? = some (.ref v17) ∧
      wp_X4_moves G (fun M21 =>
      (∃ fs23 v24, M21 p0 = some (kO 5 fs23) ∧ fs23[7]? = some (.ref v24) ∧
      (∃ fs27 v28, M21 p0 = some (kO 5 fs27) ∧ fs27[0]? = some (.ref v28) ∧
      wp_X4_messageAt G (fun r31 M32 =>
      wp_X4_takeOver G (fun M35 =>
      (∃ fs37 v38, M35 p0 = some (kO 5 fs37) ∧ fs37[7]? = some (.ref v38) ∧
      wp_X4_raise G (fun M42 =>
      (((p3).toInt = 0 →
      (∃ fs44 v45, M42 p0 = some (kO 5 fs44) ∧ fs44[7]? = some (.ref v45) ∧
        wp_X4_knownMany G (fun r48 M49 =>
        (∃ fs51 v52, M49 p0 = some (kO 5 fs51) ∧ fs51[0]? = some (.ref v52) ∧
        wp_X4_helperAt G (fun r55 M56 =>
        wp_X4_knownMany G (fun r58 M59 =>
        post ((r48 + (1 : Int32)) - r58) M59) v52 r55 M56) p1 M49)) v45 (0 : Int32) M42)) ∧
      ((p3).toInt = 1 →
      (∃ fs61 v62, M42 p0 = some (kO 5 fs61) ∧ fs61[7]? = some (.ref v62) ∧
        (∃ fs65 v66, M42 p0 = some (kO 5 fs65) ∧ fs65[0]? = some (.ref v66) ∧
        wp_X4_messageAt G (fun r69 M70 =>
        wp_X4_orderOf G (fun r72 M73 =>
        post r72 M73) v62 (0 : Int32) v66 r69 M70) p2 M42))) ∧
      ((p3).toInt = 2 →
      (∃ fs75 v76, M42 p0 = some (kO 5 fs75) ∧ fs75[7]? = some (.ref v76) ∧
        wp_X4_knots G (fun r79 M80 =>
        post r79 M80) v76 (0 : Int32) M42)) ∧
      ((p3).toInt < 0 ∨ 2 < (p3).toInt →
      post (-2 : Int32) M42))) v38 (0 : Int32) M35)) v24 (0 : Int32) v28 r31 M32) p2 M21))) v10 r13 v17 (0 : Int32) (21 : Int32) M14)) p1 M6)) ∧
    (r5 = 0 →
    post (-1 : Int32) M6))) p0 p2 M2)))) p0 p1 M0)
theorem in_X4_ifReceive_X4 : ∀ w ∈ wsX40, w ∈ wsX4_ifReceive := by decide +kernel
set_option maxHeartbeats 4000000 in
set_option maxRecDepth 100000 in
theorem c_X4_ifReceive (l : Launch) (G : k_G) (M0 : k_M) (sz : Nat) (post : Int32 → k_M → Prop) (p0 : Nat) (p1 : Int32) (p2 : Int32) (p3 : Int32) (h : wp_X4_ifReceive G post p0 p1 p2 p3 M0) : Met l yX4_ifReceive wsX4_ifReceive ({ frames := 2, cells := 0, slots := 0, locals := 49 }) (va_Pc [.ref p0, .int p1, .int p2, .int p3] (kPre G M0 sz)) (va_Qi post (kB G M0 sz) (kA M0 sz)) 0 0 (kA M0 sz) := by
  refine Met.ofW (cc := cX4_ifReceive) (maxL := 4) (ret := (some .int)) (by decide) rfl ?_
  intro p e s m args below meth c s₁ B hml hv
  obtain ⟨rfl, hsz, hR, hE⟩ := hv
  have hx := B.exec
  have hb := B.bytes
  have hr := B.returns
  have hts := atoms_spec (ws := wsX4_ifReceive) B.pre
  have hown : s.vm.findClass RX4 = some m.cls := findClass_of_methodNamed B.named
  have hlocks := B.notSynchronized
  subst hsz
  have hK := hE.1
  have hA : ∀ q, s.heap.size ≤ q → kA M0 s.heap.size q := kA.new
  have hS : va_S (kA M0 s.heap.size) s.heap s.heap [] := va_S.rf
  have hw1 := hts (.fieldLink RX4 7 "ForkedStampsModel" "state" "[I") (by decide +kernel)
  have hw2 := hts (.fieldLink RX4 25 "ForkedStampsModel" "tried" "[I") (by decide +kernel)
  have hl := lv_entry ([.ref p0, .int p1, .int p2, .int p3]) (n := 4) (Nat.le_of_ble_eq_true rfl)
  rw [lg_entry_eq]
  generalize (lg_sl ([.ref p0, .int p1, .int p2, .int p3]) ++ List.replicate (4 - (lg_sl ([.ref p0, .int p1, .int p2, .int p3])).length) Slot.unset).toArray = ls at hl ⊢
  have hl : lv_has ls 4 [(0, .ref p0), (1, .int p1), (2, .int p2), (3, .int p3)] := hl
  have hR0 := hR
  refine lv_aload_n hx hb dX4_ifReceive_0 rfl (lv_at hl 0 rfl) ?_
  refine lv_iload_n hx hb dX4_ifReceive_1 rfl (lv_at hl 1 rfl) ?_
  obtain ⟨fs4, hm3, h⟩ := h
  refine k_calli0 (va_runV (As := [.int p1]) (rest := []) ⟨hx, hb, hml, hown, hts⟩ (c_X4_isHelper l G _ _ _ p0 p1 h) (cwV 1 hts gX4_ifReceive_X4_isHelper rfl rfl rfl (by decide +kernel) ⟨Nat.le_of_ble_eq_true rfl, Nat.le_of_ble_eq_true rfl⟩) (k_preV (q := (RX4, TX4, 13)) hm3 rfl hR hS hA hE) rfl rfl hl.1 rfl (lv_room (Nat.le_of_ble_eq_true rfl)) dX4_ifReceive_2 ⟨Nat.zero_le _, Nat.zero_le _⟩) hR hS hA (fun r1 M2 H locs h hR hS => ?_)
  obtain ⟨ha, hb2⟩ := h
  refine lv_if_eq (tgt := 16) hx hb dX4_ifReceive_5 (by decide) (fun hc => ?_) (fun hc => ?_)
  · replace h := ha hc
    refine lv_iconst (v := (-1 : Int32)) hx hb dX4_ifReceive_16 (by decide) ?_
    exact k_reti hx hb hr hlocks rfl hR hS h dX4_ifReceive_17
  · replace h := hb2 hc
    refine lv_aload_n hx hb dX4_ifReceive_8 rfl (lv_at hl 0 rfl) ?_
    refine lv_iload_n hx hb dX4_ifReceive_9 rfl (lv_at hl 2 rfl) ?_
    obtain ⟨fs8, hm7, h⟩ := h
    refine k_calli0 (va_runV (As := [.int p2]) (rest := []) ⟨hx, hb, hml, hown, hts⟩ (c_X4_isMessage l G _ _ _ p0 p2 h) (cwV 1 hts gX4_ifReceive_X4_isMessage rfl rfl rfl (by decide +kernel) ⟨Nat.le_of_ble_eq_true rfl, Nat.le_of_ble_eq_true rfl⟩) (k_preV (q := (RX4, TX4, 13)) hm7 rfl hR hS hA hE) rfl rfl hl.1 rfl (lv_room (Nat.le_of_ble_eq_true rfl)) dX4_ifReceive_10 ⟨Nat.zero_le _, Nat.zero_le _⟩) hR hS hA (fun r5 M6 H locs h hR hS => ?_)
    obtain ⟨ha, hb2⟩ := h
    refine lv_if_ne (tgt := 18) hx hb dX4_ifReceive_13 (by decide) (fun hc => ?_) (fun hc => ?_)
    · replace h := ha hc
      refine lv_aload_n hx hb dX4_ifReceive_18 rfl (lv_at hl 0 rfl) ?_
      obtain ⟨fs9, v10, hm11, hv12, h⟩ := h
      refine k_get (ci := 5) (C := RX4) (T := TX4) (N := 13) hx hb hts in_X4_ifReceive_X4 hown hK hR hm11 rfl 0 (by decide) hw1 (fun _ h9 => h9) hv12 dX4_ifReceive_19 ?_
      refine lv_iload_n hx hb dX4_ifReceive_22 rfl (lv_at hl 1 rfl) ?_
      refine k_calli0 (va_runS (As := [.int p1]) (rest := [.ref v10]) ⟨hx, hb, hml, hown, hts⟩ (c_X4_helperAt l G _ _ _ p1 h) (va_cwS 1 hts gX4_ifReceive_X4_helperAt rfl rfl rfl (by decide +kernel) ⟨Nat.le_of_ble_eq_true rfl, Nat.le_of_ble_eq_true rfl⟩) (k_preS hR hS hA hE) rfl rfl hl.1 rfl (lv_room (Nat.le_of_ble_eq_true rfl)) dX4_ifReceive_23 ⟨Nat.zero_le _, Nat.zero_le _⟩) hR hS hA (fun r13 M14 H locs h hR hS => ?_)
      refine lv_aload_n hx hb dX4_ifReceive_26 rfl (lv_at hl 0 rfl) ?_
      obtain ⟨fs16, v17, hm18, hv19, h⟩ := h
      refine k_get (ci := 5) (C := RX4) (T := TX4) (N := 13) hx hb hts in_X4_ifReceive_X4 hown hK hR hm18 rfl 7 (by decide) hw2 (fun _ h9 => h9) hv19 dX4_ifReceive_27 ?_
      refine lv_iconst (v := (0 : Int32)) hx hb dX4_ifReceive_30 (by decide) ?_
      refine lv_bipush (v := (21 : Int32)) hx hb dX4_ifReceive_31 (by decide) ?_
      refine k_callv0 (va_runS (As := [.ref v10, .int r13, .ref v17, .int (0 : Int32), .int (21 : Int32)]) (rest := []) ⟨hx, hb, hml, hown, hts⟩ (c_X4_moves l G _ _ _ v10 r13 v17 (0 : Int32) (21 : Int32) h) (va_cwS 5 hts gX4_ifReceive_X4_moves rfl rfl rfl (by decide +kernel) ⟨Nat.le_of_ble_eq_true rfl, Nat.le_of_ble_eq_true rfl⟩) (k_preS hR hS hA hE) rfl rfl hl.1 rfl (lv_room (Nat.le_of_ble_eq_true rfl)) dX4_ifReceive_33 ⟨Nat.zero_le _, Nat.zero_le _⟩) hR hS hA (fun M21 H locs h hR hS => ?_)
      refine lv_aload_n hx hb dX4_ifReceive_36 rfl (lv_at hl 0 rfl) ?_
      obtain ⟨fs23, v24, hm25, hv26, h⟩ := h
      refine k_get (ci := 5) (C := RX4) (T := TX4) (N := 13) hx hb hts in_X4_ifReceive_X4 hown hK hR hm25 rfl 7 (by decide) hw2 (fun _ h9 => h9) hv26 dX4_ifReceive_37 ?_
      refine lv_iconst (v := (0 : Int32)) hx hb dX4_ifReceive_40 (by decide) ?_
      refine lv_aload_n hx hb dX4_ifReceive_41 rfl (lv_at hl 0 rfl) ?_
      obtain ⟨fs27, v28, hm29, hv30, h⟩ := h
      refine k_get (ci := 5) (C := RX4) (T := TX4) (N := 13) hx hb hts in_X4_ifReceive_X4 hown hK hR hm29 rfl 0 (by decide) hw1 (fun _ h9 => h9) hv30 dX4_ifReceive_42 ?_
      refine lv_iload_n hx hb dX4_ifReceive_45 rfl (lv_at hl 2 rfl) ?_
      refine k_calli0 (va_runS (As := [.int p2]) (rest := [.ref v28, .int (0 : Int32), .ref v24]) ⟨hx, hb, hml, hown, hts⟩ (c_X4_messageAt l G _ _ _ p2 h) (va_cwS 1 hts gX4_ifReceive_X4_messageAt rfl rfl rfl (by decide +kernel) ⟨Nat.le_of_ble_eq_true rfl, Nat.le_of_ble_eq_true rfl⟩) (k_preS hR hS hA hE) rfl rfl hl.1 rfl (lv_room (Nat.le_of_ble_eq_true rfl)) dX4_ifReceive_46 ⟨Nat.zero_le _, Nat.zero_le _⟩) hR hS hA (fun r31 M32 H locs h hR hS => ?_)
      refine k_callv0 (va_runS (As := [.ref v24, .int (0 : Int32), .ref v28, .int r31]) (rest := []) ⟨hx, hb, hml, hown, hts⟩ (c_X4_takeOver l G _ _ _ v24 (0 : Int32) v28 r31 h) (va_cwS 4 hts gX4_ifReceive_X4_takeOver rfl rfl rfl (by decide +kernel) ⟨Nat.le_of_ble_eq_true rfl, Nat.le_of_ble_eq_true rfl⟩) (k_preS hR hS hA hE) rfl rfl hl.1 rfl (lv_room (Nat.le_of_ble_eq_true rfl)) dX4_ifReceive_49 ⟨Nat.zero_le _, Nat.zero_le _⟩) hR hS hA (fun M35 H locs h hR hS => ?_)
      refine lv_aload_n hx hb dX4_ifReceive_52 rfl (lv_at hl 0 rfl) ?_
      obtain ⟨fs37, v38, hm39, hv40, h⟩ := h
      refine k_get (ci := 5) (C := RX4) (T := TX4) (N := 13) hx hb hts in_X4_ifReceive_X4 hown hK hR hm39 rfl 7 (by decide) hw2 (fun _ h9 => h9) hv40 dX4_ifReceive_53 ?_
      refine lv_iconst (v := (0 : Int32)) hx hb dX4_ifReceive_56 (by decide) ?_
      refine k_callv0 (va_runS (As := [.ref v38, .int (0 : Int32)]) (rest := []) ⟨hx, hb, hml, hown, hts⟩ (c_X4_raise l G _ _ _ v38 (0 : Int32) h) (va_cwS 2 hts gX4_ifReceive_X4_raise rfl rfl rfl (by decide +kernel) ⟨Nat.le_of_ble_eq_true rfl, Nat.le_of_ble_eq_true rfl⟩) (k_preS hR hS hA hE) rfl rfl hl.1 rfl (lv_room (Nat.le_of_ble_eq_true rfl)) dX4_ifReceive_57 ⟨Nat.zero_le _, Nat.zero_le _⟩) hR hS hA (fun M42 H locs h hR hS => ?_)
      refine lv_iload_n hx hb dX4_ifReceive_60 rfl (lv_at hl 3 rfl) ?_
      have hsw := h
      obtain ⟨hs0, hs1, hs2, hs3⟩ := hsw
      by_cases hout : (p3).toInt < 0 ∨ 2 < (p3).toInt
      · refine lv_tableOut (tgt := 137) hx hb dX4_ifReceive_61 hout (by decide) ?_
        replace h := hs3 hout
        refine lv_bipush (v := (-2 : Int32)) hx hb dX4_ifReceive_137 (by decide) ?_
        exact k_reti hx hb hr hlocks rfl hR hS h dX4_ifReceive_139
      have hin : (p3).toInt = 0 ∨ (p3).toInt = 1 ∨ (p3).toInt = 2 := by omega
      rcases hin with hk | hk | hk
      · refine lv_tableIn (tgt := 88) (off := 27) hx hb dX4_ifReceive_61 (by omega) (by omega) (by rw [hk]; rfl) (by decide) ?_
        replace h := hs0 hk
        refine lv_aload_n hx hb dX4_ifReceive_88 rfl (lv_at hl 0 rfl) ?_
        obtain ⟨fs44, v45, hm46, hv47, h⟩ := h
        refine k_get (ci := 5) (C := RX4) (T := TX4) (N := 13) hx hb hts in_X4_ifReceive_X4 hown hK hR hm46 rfl 7 (by decide) hw2 (fun _ h9 => h9) hv47 dX4_ifReceive_89 ?_
        refine lv_iconst (v := (0 : Int32)) hx hb dX4_ifReceive_92 (by decide) ?_
        refine k_calli0 (va_runS (As := [.ref v45, .int (0 : Int32)]) (rest := []) ⟨hx, hb, hml, hown, hts⟩ (c_X4_knownMany l G _ _ _ v45 (0 : Int32) h) (va_cwS 2 hts gX4_ifReceive_X4_knownMany rfl rfl rfl (by decide +kernel) ⟨Nat.le_of_ble_eq_true rfl, Nat.le_of_ble_eq_true rfl⟩) (k_preS hR hS hA hE) rfl rfl hl.1 rfl (lv_room (Nat.le_of_ble_eq_true rfl)) dX4_ifReceive_93 ⟨Nat.zero_le _, Nat.zero_le _⟩) hR hS hA (fun r48 M49 H locs h hR hS => ?_)
        refine lv_iconst (v := (1 : Int32)) hx hb dX4_ifReceive_96 (by decide) ?_
        refine lv_iadd hx hb dX4_ifReceive_97 ?_
        refine lv_aload_n hx hb dX4_ifReceive_98 rfl (lv_at hl 0 rfl) ?_
        obtain ⟨fs51, v52, hm53, hv54, h⟩ := h
        refine k_get (ci := 5) (C := RX4) (T := TX4) (N := 13) hx hb hts in_X4_ifReceive_X4 hown hK hR hm53 rfl 0 (by decide) hw1 (fun _ h9 => h9) hv54 dX4_ifReceive_99 ?_
        refine lv_iload_n hx hb dX4_ifReceive_102 rfl (lv_at hl 1 rfl) ?_
        refine k_calli0 (va_runS (As := [.int p1]) (rest := [.ref v52, .int (r48 + (1 : Int32))]) ⟨hx, hb, hml, hown, hts⟩ (c_X4_helperAt l G _ _ _ p1 h) (va_cwS 1 hts gX4_ifReceive_X4_helperAt rfl rfl rfl (by decide +kernel) ⟨Nat.le_of_ble_eq_true rfl, Nat.le_of_ble_eq_true rfl⟩) (k_preS hR hS hA hE) rfl rfl hl.1 rfl (lv_room (Nat.le_of_ble_eq_true rfl)) dX4_ifReceive_103 ⟨Nat.zero_le _, Nat.zero_le _⟩) hR hS hA (fun r55 M56 H locs h hR hS => ?_)
        refine k_calli0 (va_runS (As := [.ref v52, .int r55]) (rest := [.int (r48 + (1 : Int32))]) ⟨hx, hb, hml, hown, hts⟩ (c_X4_knownMany l G _ _ _ v52 r55 h) (va_cwS 2 hts gX4_ifReceive_X4_knownMany rfl rfl rfl (by decide +kernel) ⟨Nat.le_of_ble_eq_true rfl, Nat.le_of_ble_eq_true rfl⟩) (k_preS hR hS hA hE) rfl rfl hl.1 rfl (lv_room (Nat.le_of_ble_eq_true rfl)) dX4_ifReceive_106 ⟨Nat.zero_le _, Nat.zero_le _⟩) hR hS hA (fun r58 M59 H locs h hR hS => ?_)
        refine lv_isub hx hb dX4_ifReceive_109 ?_
        exact k_reti hx hb hr hlocks rfl hR hS h dX4_ifReceive_110
      · refine lv_tableIn (tgt := 111) (off := 50) hx hb dX4_ifReceive_61 (by omega) (by omega) (by rw [hk]; rfl) (by decide) ?_
        replace h := hs1 hk
        refine lv_aload_n hx hb dX4_ifReceive_111 rfl (lv_at hl 0 rfl) ?_
        obtain ⟨fs61, v62, hm63, hv64, h⟩ := h
        refine k_get (ci := 5) (C := RX4) (T := TX4) (N := 13) hx hb hts in_X4_ifReceive_X4 hown hK hR hm63 rfl 7 (by decide) hw2 (fun _ h9 => h9) hv64 dX4_ifReceive_112 ?_
        refine lv_iconst (v := (0 : Int32)) hx hb dX4_ifReceive_115 (by decide) ?_
        refine lv_aload_n hx hb dX4_ifReceive_116 rfl (lv_at hl 0 rfl) ?_
        obtain ⟨fs65, v66, hm67, hv68, h⟩ := h
        refine k_get (ci := 5) (C := RX4) (T := TX4) (N := 13) hx hb hts in_X4_ifReceive_X4 hown hK hR hm67 rfl 0 (by decide) hw1 (fun _ h9 => h9) hv68 dX4_ifReceive_117 ?_
        refine lv_iload_n hx hb dX4_ifReceive_120 rfl (lv_at hl 2 rfl) ?_
        refine k_calli0 (va_runS (As := [.int p2]) (rest := [.ref v66, .int (0 : Int32), .ref v62]) ⟨hx, hb, hml, hown, hts⟩ (c_X4_messageAt l G _ _ _ p2 h) (va_cwS 1 hts gX4_ifReceive_X4_messageAt rfl rfl rfl (by decide +kernel) ⟨Nat.le_of_ble_eq_true rfl, Nat.le_of_ble_eq_true rfl⟩) (k_preS hR hS hA hE) rfl rfl hl.1 rfl (lv_room (Nat.le_of_ble_eq_true rfl)) dX4_ifReceive_121 ⟨Nat.zero_le _, Nat.zero_le _⟩) hR hS hA (fun r69 M70 H locs h hR hS => ?_)
        refine k_calli0 (va_runS (As := [.ref v62, .int (0 : Int32), .ref v66, .int r69]) (rest := []) ⟨hx, hb, hml, hown, hts⟩ (c_X4_orderOf l G _ _ _ v62 (0 : Int32) v66 r69 h) (va_cwS 4 hts gX4_ifReceive_X4_orderOf rfl rfl rfl (by decide +kernel) ⟨Nat.le_of_ble_eq_true rfl, Nat.le_of_ble_eq_true rfl⟩) (k_preS hR hS hA hE) rfl rfl hl.1 rfl (lv_room (Nat.le_of_ble_eq_true rfl)) dX4_ifReceive_124 ⟨Nat.zero_le _, Nat.zero_le _⟩) hR hS hA (fun r72 M73 H locs h hR hS => ?_)
        exact k_reti hx hb hr hlocks rfl hR hS h dX4_ifReceive_127
      · refine lv_tableIn (tgt := 128) (off := 67) hx hb dX4_ifReceive_61 (by omega) (by omega) (by rw [hk]; rfl) (by decide) ?_
        replace h := hs2 hk
        refine lv_aload_n hx hb dX4_ifReceive_128 rfl (lv_at hl 0 rfl) ?_
        obtain ⟨fs75, v76, hm77, hv78, h⟩ := h
        refine k_get (ci := 5) (C := RX4) (T := TX4) (N := 13) hx hb hts in_X4_ifReceive_X4 hown hK hR hm77 rfl 7 (by decide) hw2 (fun _ h9 => h9) hv78 dX4_ifReceive_129 ?_
        refine lv_iconst (v := (0 : Int32)) hx hb dX4_ifReceive_132 (by decide) ?_
        refine k_calli0 (va_runS (As := [.ref v76, .int (0 : Int32)]) (rest := []) ⟨hx, hb, hml, hown, hts⟩ (c_X4_knots l G _ _ _ v76 (0 : Int32) h) (va_cwS 2 hts gX4_ifReceive_X4_knots rfl rfl rfl (by decide +kernel) ⟨Nat.le_of_ble_eq_true rfl, Nat.le_of_ble_eq_true rfl⟩) (k_preS hR hS hA hE) rfl rfl hl.1 rfl (lv_room (Nat.le_of_ble_eq_true rfl)) dX4_ifReceive_133 ⟨Nat.zero_le _, Nat.zero_le _⟩) hR hS hA (fun r79 M80 H locs h hR hS => ?_)
        exact k_reti hx hb hr hlocks rfl hR hS h dX4_ifReceive_136
    · replace h := hb2 hc
      refine lv_iconst (v := (-1 : Int32)) hx hb dX4_ifReceive_16 (by decide) ?_
      exact k_reti hx hb hr hlocks rfl hR hS h dX4_ifReceive_17

def wp_X4_laggard_b80 (G : k_G) (post : Int32 → k_M → Prop) (K20 : Nat → Int32 → Int32 → Int32 → Int32 → k_M → Prop) (x0 : Nat) (x1 : Int32) (x3 : Int32) (x4 : Int32) (x5 : Int32) (x6 : Int32) (s0 : Int32) (M : k_M) : Prop :=
  ((x6 = 0 →
    K20 x0 x1 s0 x3 (x4 + (1 : Int32)) M) ∧
    (¬ x6 = 0 →
    K20 x0 x1 s0 x5 (x4 + (1 : Int32)) M))
def wp_X4_laggard_b67 (G : k_G) (post : Int32 → k_M → Prop) (K20 : Nat → Int32 → Int32 → Int32 → Int32 → k_M → Prop) (x0 : Nat) (x1 : Int32) (x2 : Int32) (x3 : Int32) (x4 : Int32) (x5 : Int32) (s0 : Int32) (M : k_M) : Prop :=
  ((s0 = 0 →
    wp_X4_laggard_b80 G post K20 x0 x1 x3 x4 x5 s0 x2 M) ∧
    (¬ s0 = 0 →
    wp_X4_laggard_b80 G post K20 x0 x1 x3 x4 x5 s0 x4 M))
def wp_X4_laggard_b66 (G : k_G) (post : Int32 → k_M → Prop) (K20 : Nat → Int32 → Int32 → Int32 → Int32 → k_M → Prop) (x0 : Nat) (x1 : Int32) (x2 : Int32) (x3 : Int32) (x4 : Int32) (x5 : Int32) (M : k_M) : Prop :=
  wp_X4_laggard_b67 G post K20 x0 x1 x2 x3 x4 x5 (0 : Int32) M
def wp_X4_laggard_b62 (G : k_G) (post : Int32 → k_M → Prop) (K20 : Nat → Int32 → Int32 → Int32 → Int32 → k_M → Prop) (x0 : Nat) (x1 : Int32) (x2 : Int32) (x3 : Int32) (x4 : Int32) (x5 : Int32) (M : k_M) : Prop :=
  wp_X4_laggard_b67 G post K20 x0 x1 x2 x3 x4 x5 (1 : Int32) M
def wp_X4_laggard_L20 (G : k_G) (post : Int32 → k_M → Prop) : Nat → Nat → Int32 → Int32 → Int32 → Int32 → k_M → Prop
  | 0 => fun _ _ _ _ _ _ => False
  | n + 1 => fun x0 x1 x2 x3 x4 M =>
  (((8 : Int32) ≤ x4 →
      ((¬ x1 = 0 →
        (∃ fs5 v6, M x0 = some (kO 5 fs5) ∧ fs5[0]? = some (.ref v6) ∧
          (∃ n9 f10, M v6 = some (kI G n9 f10) ∧ vp_in (2 : Int32) n9 ∧
          post ((f10 ((2 : Int32)).toNatClampNeg) - x3) M))) ∧
        (x1 = 0 →
        post x2 M))) ∧
      (¬ (8 : Int32) ≤ x4 →
      (∃ fs13 v14, M x0 = some (kO 5 fs13) ∧ fs13[0]? = some (.ref v14) ∧
        wp_X4_helperAt G (fun r17 M18 =>
        wp_X4_knownMany G (fun r20 M21 =>
        (∃ fs26, M21 x0 = some (kO 5 fs26) ∧ wp_X4_isHelper G (fun r23 M24 =>
        ((r23 = 0 →
        wp_X4_laggard_b66 G post (wp_X4_laggard_L20 G post n) x0 x1 x2 x3 x4 r20 M24) ∧
        (¬ r23 = 0 →
        ((x2 = (-6 : Int32) →
          wp_X4_laggard_b62 G post (wp_X4_laggard_L20 G post n) x0 x1 x2 x3 x4 r20 M24) ∧
          (¬ x2 = (-6 : Int32) →
          ((x3 ≤ r20 →
            wp_X4_laggard_b66 G post (wp_X4_laggard_L20 G post n) x0 x1 x2 x3 x4 r20 M24) ∧
            (¬ x3 ≤ r20 →
            wp_X4_laggard_b62 G post (wp_X4_laggard_L20 G post n) x0 x1 x2 x3 x4 r20 M24))))))) x0 x4 M21)) v14 r17 M18) x4 M)))
def wp_X4_laggard (G : k_G) (post : Int32 → k_M → Prop) (p0 : Nat) (p1 : Int32) (M0 : k_M) : Prop :=
  wp_X4_within G (fun r1 M2 =>
  ((¬ r1 = 0 →
  ∃ k4, wp_X4_laggard_L20 G post k4 p0 p1 (-6 : Int32) (0 : Int32) (0 : Int32) M2) ∧
  (r1 = 0 →
  post (-2 : Int32) M2))) p1 (0 : Int32) (1 : Int32) M0
theorem in_X4_laggard_X4 : ∀ w ∈ wsX40, w ∈ wsX4_laggard := by decide +kernel
set_option maxHeartbeats 4000000 in
set_option maxRecDepth 100000 in
theorem c_X4_laggard (l : Launch) (G : k_G) (M0 : k_M) (sz : Nat) (post : Int32 → k_M → Prop) (p0 : Nat) (p1 : Int32) (h : wp_X4_laggard G post p0 p1 M0) : Met l yX4_laggard wsX4_laggard ({ frames := 2, cells := 0, slots := 0, locals := 45 }) (va_Pc [.ref p0, .int p1] (kPre G M0 sz)) (va_Qi post (kB G M0 sz) (kA M0 sz)) 0 0 (kA M0 sz) := by
  refine Met.ofW (cc := cX4_laggard) (maxL := 7) (ret := (some .int)) (by decide) rfl ?_
  intro p e s m args below meth c s₁ B hml hv
  obtain ⟨rfl, hsz, hR, hE⟩ := hv
  have hx := B.exec
  have hb := B.bytes
  have hr := B.returns
  have hts := atoms_spec (ws := wsX4_laggard) B.pre
  have hown : s.vm.findClass RX4 = some m.cls := findClass_of_methodNamed B.named
  have hlocks := B.notSynchronized
  subst hsz
  have hK := hE.1
  have hA : ∀ q, s.heap.size ≤ q → kA M0 s.heap.size q := kA.new
  have hS : va_S (kA M0 s.heap.size) s.heap s.heap [] := va_S.rf
  have hw1 := hts (.fieldLink RX4 7 "ForkedStampsModel" "state" "[I") (by decide +kernel)
  have b80 : ∀ (K20 : Nat → Int32 → Int32 → Int32 → Int32 → k_M → Prop) (hK20 : ∀ (x0 : Nat) (x1 : Int32) (x2 : Int32) (x3 : Int32) (x4 : Int32) (M : k_M) (H : Heap) (locs : List Loc) (ls : Array Slot), K20 x0 x1 x2 x3 x4 M → lv_has ls 7 [(0, .ref x0), (1, .int x1), (2, .int x2), (3, .int x3), (4, .int x4)] → kR G M (kA M0 s.heap.size) H → va_S (kA M0 s.heap.size) s.heap H locs → W p l e (headSpec wsX4_laggard ({ frames := 2, cells := 0, slots := 0, locals := 45 })).room s m ([.ref p0, .int p1] : List Value).toArray below meth c H locs 0 0 (MQ below (va_Qi post (kB G M0 s.heap.size) (kA M0 s.heap.size)) ([.ref p0, .int p1] : List Value).toArray s 0 0 (kA M0 s.heap.size)) (F0 m 20 ls [])), ∀ (x0 : Nat) (x1 : Int32) (x3 : Int32) (x4 : Int32) (x5 : Int32) (x6 : Int32) (s0 : Int32) (M : k_M) (H : Heap) (locs : List Loc) (ls : Array Slot), wp_X4_laggard_b80 G post K20 x0 x1 x3 x4 x5 x6 s0 M → lv_has ls 7 [(0, .ref x0), (1, .int x1), (3, .int x3), (4, .int x4), (5, .int x5), (6, .int x6)] → kR G M (kA M0 s.heap.size) H → va_S (kA M0 s.heap.size) s.heap H locs → W p l e (headSpec wsX4_laggard ({ frames := 2, cells := 0, slots := 0, locals := 45 })).room s m ([.ref p0, .int p1] : List Value).toArray below meth c H locs 0 0 (MQ below (va_Qi post (kB G M0 s.heap.size) (kA M0 s.heap.size)) ([.ref p0, .int p1] : List Value).toArray s 0 0 (kA M0 s.heap.size)) (F0 m 80 ls [.int s0]) := by
    intro K20 hK20 x0 x1 x3 x4 x5 x6 s0 M H locs ls h hl hR hS
    refine lv_istore_n (lv' := [(2, .int s0), (0, .ref x0), (1, .int x1), (3, .int x3), (4, .int x4), (5, .int x5), (6, .int x6)]) hx hb dX4_laggard_80 rfl hl (by decide) rfl (fun ls hl => ?_)
    refine lv_iload hx hb dX4_laggard_81 (lv_at hl 6 rfl) ?_
    obtain ⟨ha, hb2⟩ := h
    refine lv_if_eq (tgt := 91) hx hb dX4_laggard_83 (by decide) (fun hc => ?_) (fun hc => ?_)
    · replace h := ha hc
      refine lv_iload_n hx hb dX4_laggard_91 rfl (lv_at hl 3 rfl) ?_
      refine lv_istore_n (lv' := [(3, .int x3), (2, .int s0), (0, .ref x0), (1, .int x1), (4, .int x4), (5, .int x5), (6, .int x6)]) hx hb dX4_laggard_92 rfl hl (by decide) rfl (fun ls hl => ?_)
      refine lv_iinc (v := (x4 + (1 : Int32))) (lv' := [(4, .int (x4 + (1 : Int32))), (3, .int x3), (2, .int s0), (0, .ref x0), (1, .int x1), (5, .int x5), (6, .int x6)]) hx hb dX4_laggard_93 hl (k := 4) rfl rfl (by decide) rfl (fun ls hl => ?_)
      refine lv_goto (tgt := 20) hx hb dX4_laggard_96 (by decide) ?_
      exact hK20 _ _ _ _ _ _ _ _ _ h (lv_sub hl [3, 4, 2, 1, 0] rfl) hR hS
    · replace h := hb2 hc
      refine lv_iload hx hb dX4_laggard_86 (lv_at hl 5 rfl) ?_
      refine lv_goto (tgt := 92) hx hb dX4_laggard_88 (by decide) ?_
      refine lv_istore_n (lv' := [(3, .int x5), (2, .int s0), (0, .ref x0), (1, .int x1), (4, .int x4), (5, .int x5), (6, .int x6)]) hx hb dX4_laggard_92 rfl hl (by decide) rfl (fun ls hl => ?_)
      refine lv_iinc (v := (x4 + (1 : Int32))) (lv' := [(4, .int (x4 + (1 : Int32))), (3, .int x5), (2, .int s0), (0, .ref x0), (1, .int x1), (5, .int x5), (6, .int x6)]) hx hb dX4_laggard_93 hl (k := 4) rfl rfl (by decide) rfl (fun ls hl => ?_)
      refine lv_goto (tgt := 20) hx hb dX4_laggard_96 (by decide) ?_
      exact hK20 _ _ _ _ _ _ _ _ _ h (lv_sub hl [3, 4, 2, 1, 0] rfl) hR hS
  have b67 : ∀ (K20 : Nat → Int32 → Int32 → Int32 → Int32 → k_M → Prop) (hK20 : ∀ (x0 : Nat) (x1 : Int32) (x2 : Int32) (x3 : Int32) (x4 : Int32) (M : k_M) (H : Heap) (locs : List Loc) (ls : Array Slot), K20 x0 x1 x2 x3 x4 M → lv_has ls 7 [(0, .ref x0), (1, .int x1), (2, .int x2), (3, .int x3), (4, .int x4)] → kR G M (kA M0 s.heap.size) H → va_S (kA M0 s.heap.size) s.heap H locs → W p l e (headSpec wsX4_laggard ({ frames := 2, cells := 0, slots := 0, locals := 45 })).room s m ([.ref p0, .int p1] : List Value).toArray below meth c H locs 0 0 (MQ below (va_Qi post (kB G M0 s.heap.size) (kA M0 s.heap.size)) ([.ref p0, .int p1] : List Value).toArray s 0 0 (kA M0 s.heap.size)) (F0 m 20 ls [])), ∀ (x0 : Nat) (x1 : Int32) (x2 : Int32) (x3 : Int32) (x4 : Int32) (x5 : Int32) (s0 : Int32) (M : k_M) (H : Heap) (locs : List Loc) (ls : Array Slot), wp_X4_laggard_b67 G post K20 x0 x1 x2 x3 x4 x5 s0 M → lv_has ls 7 [(0, .ref x0), (1, .int x1), (2, .int x2), (3, .int x3), (4, .int x4), (5, .int x5)] → kR G M (kA M0 s.heap.size) H → va_S (kA M0 s.heap.size) s.heap H locs → W p l e (headSpec wsX4_laggard ({ frames := 2, cells := 0, slots := 0, locals := 45 })).room s m ([.ref p0, .int p1] : List Value).toArray below meth c H locs 0 0 (MQ below (va_Qi post (kB G M0 s.heap.size) (kA M0 s.heap.size)) ([.ref p0, .int p1] : List Value).toArray s 0 0 (kA M0 s.heap.size)) (F0 m 67 ls [.int s0]) := by
    intro K20 hK20 x0 x1 x2 x3 x4 x5 s0 M H locs ls h hl hR hS
    refine lv_istore (lv' := [(6, .int s0), (0, .ref x0), (1, .int x1), (2, .int x2), (3, .int x3), (4, .int x4), (5, .int x5)]) hx hb dX4_laggard_67 hl (by decide) rfl (fun ls hl => ?_)
    refine lv_iload hx hb dX4_laggard_69 (lv_at hl 0 rfl) ?_
    obtain ⟨ha, hb2⟩ := h
    refine lv_if_eq (tgt := 79) hx hb dX4_laggard_71 (by decide) (fun hc => ?_) (fun hc => ?_)
    · replace h := ha hc
      refine lv_iload_n hx hb dX4_laggard_79 rfl (lv_at hl 3 rfl) ?_
      exact b80 _ hK20 _ _ _ _ _ _ _ _ _ _ _ h (lv_sub hl [1, 2, 4, 5, 6, 0] rfl) hR hS
    · replace h := hb2 hc
      refine lv_iload hx hb dX4_laggard_74 (lv_at hl 5 rfl) ?_
      refine lv_goto (tgt := 80) hx hb dX4_laggard_76 (by decide) ?_
      exact b80 _ hK20 _ _ _ _ _ _ _ _ _ _ _ h (lv_sub hl [1, 2, 4, 5, 6, 0] rfl) hR hS
  have b66 : ∀ (K20 : Nat → Int32 → Int32 → Int32 → Int32 → k_M → Prop) (hK20 : ∀ (x0 : Nat) (x1 : Int32) (x2 : Int32) (x3 : Int32) (x4 : Int32) (M : k_M) (H : Heap) (locs : List Loc) (ls : Array Slot), K20 x0 x1 x2 x3 x4 M → lv_has ls 7 [(0, .ref x0), (1, .int x1), (2, .int x2), (3, .int x3), (4, .int x4)] → kR G M (kA M0 s.heap.size) H → va_S (kA M0 s.heap.size) s.heap H locs → W p l e (headSpec wsX4_laggard ({ frames := 2, cells := 0, slots := 0, locals := 45 })).room s m ([.ref p0, .int p1] : List Value).toArray below meth c H locs 0 0 (MQ below (va_Qi post (kB G M0 s.heap.size) (kA M0 s.heap.size)) ([.ref p0, .int p1] : List Value).toArray s 0 0 (kA M0 s.heap.size)) (F0 m 20 ls [])), ∀ (x0 : Nat) (x1 : Int32) (x2 : Int32) (x3 : Int32) (x4 : Int32) (x5 : Int32) (M : k_M) (H : Heap) (locs : List Loc) (ls : Array Slot), wp_X4_laggard_b66 G post K20 x0 x1 x2 x3 x4 x5 M → lv_has ls 7 [(0, .ref x0), (1, .int x1), (2, .int x2), (3, .int x3), (4, .int x4), (5, .int x5)] → kR G M (kA M0 s.heap.size) H → va_S (kA M0 s.heap.size) s.heap H locs → W p l e (headSpec wsX4_laggard ({ frames := 2, cells := 0, slots := 0, locals := 45 })).room s m ([.ref p0, .int p1] : List Value).toArray below meth c H locs 0 0 (MQ below (va_Qi post (kB G M0 s.heap.size) (kA M0 s.heap.size)) ([.ref p0, .int p1] : List Value).toArray s 0 0 (kA M0 s.heap.size)) (F0 m 66 ls []) := by
    intro K20 hK20 x0 x1 x2 x3 x4 x5 M H locs ls h hl hR hS
    refine lv_iconst (v := (0 : Int32)) hx hb dX4_laggard_66 (by decide) ?_
    exact b67 _ hK20 _ _ _ _ _ _ _ _ _ _ _ h (lv_sub hl [0, 1, 2, 3, 4, 5] rfl) hR hS
  have b62 : ∀ (K20 : Nat → Int32 → Int32 → Int32 → Int32 → k_M → Prop) (hK20 : ∀ (x0 : Nat) (x1 : Int32) (x2 : Int32) (x3 : Int32) (x4 : Int32) (M : k_M) (H : Heap) (locs : List Loc) (ls : Array Slot), K20 x0 x1 x2 x3 x4 M → lv_has ls 7 [(0, .ref x0), (1, .int x1), (2, .int x2), (3, .int x3), (4, .int x4)] → kR G M (kA M0 s.heap.size) H → va_S (kA M0 s.heap.size) s.heap H locs → W p l e (headSpec wsX4_laggard ({ frames := 2, cells := 0, slots := 0, locals := 45 })).room s m ([.ref p0, .int p1] : List Value).toArray below meth c H locs 0 0 (MQ below (va_Qi post (kB G M0 s.heap.size) (kA M0 s.heap.size)) ([.ref p0, .int p1] : List Value).toArray s 0 0 (kA M0 s.heap.size)) (F0 m 20 ls [])), ∀ (x0 : Nat) (x1 : Int32) (x2 : Int32) (x3 : Int32) (x4 : Int32) (x5 : Int32) (M : k_M) (H : Heap) (locs : List Loc) (ls : Array Slot), wp_X4_laggard_b62 G post K20 x0 x1 x2 x3 x4 x5 M → lv_has ls 7 [(0, .ref x0), (1, .int x1), (2, .int x2), (3, .int x3), (4, .int x4), (5, .int x5)] → kR G M (kA M0 s.heap.size) H → va_S (kA M0 s.heap.size) s.heap H locs → W p l e (headSpec wsX4_laggard ({ frames := 2, cells := 0, slots := 0, locals := 45 })).room s m ([.ref p0, .int p1] : List Value).toArray below meth c H locs 0 0 (MQ below (va_Qi post (kB G M0 s.heap.size) (kA M0 s.heap.size)) ([.ref p0, .int p1] : List Value).toArray s 0 0 (kA M0 s.heap.size)) (F0 m 62 ls []) := by
    intro K20 hK20 x0 x1 x2 x3 x4 x5 M H locs ls h hl hR hS
    refine lv_iconst (v := (1 : Int32)) hx hb dX4_laggard_62 (by decide) ?_
    refine lv_goto (tgt := 67) hx hb dX4_laggard_63 (by decide) ?_
    exact b67 _ hK20 _ _ _ _ _ _ _ _ _ _ _ h (lv_sub hl [0, 1, 2, 3, 4, 5] rfl) hR hS
  have L20 : ∀ (n : Nat), ∀ (x0 : Nat) (x1 : Int32) (x2 : Int32) (x3 : Int32) (x4 : Int32) (M : k_M) (H : Heap) (locs : List Loc) (ls : Array Slot), wp_X4_laggard_L20 G post n x0 x1 x2 x3 x4 M → lv_has ls 7 [(0, .ref x0), (1, .int x1), (2, .int x2), (3, .int x3), (4, .int x4)] → kR G M (kA M0 s.heap.size) H → va_S (kA M0 s.heap.size) s.heap H locs → W p l e (headSpec wsX4_laggard ({ frames := 2, cells := 0, slots := 0, locals := 45 })).room s m ([.ref p0, .int p1] : List Value).toArray below meth c H locs 0 0 (MQ below (va_Qi post (kB G M0 s.heap.size) (kA M0 s.heap.size)) ([.ref p0, .int p1] : List Value).toArray s 0 0 (kA M0 s.heap.size)) (F0 m 20 ls []) := by
    intro n
    induction n with
    | zero =>
      intro  x0 x1 x2 x3 x4 M H locs ls h
      exact False.elim h
    | succ n ih =>
      intro  x0 x1 x2 x3 x4 M H locs ls h hl hR hS
      refine lv_iload hx hb dX4_laggard_20 (lv_at hl 4 rfl) ?_
      refine lv_bipush (v := (8 : Int32)) hx hb dX4_laggard_22 (by decide) ?_
      obtain ⟨ha, hb2⟩ := h
      refine lv_icmp_ge (tgt := 99) hx hb dX4_laggard_24 (by decide) (fun hc => ?_) (fun hc => ?_)
      · replace h := ha hc
        refine lv_iload_n hx hb dX4_laggard_99 rfl (lv_at hl 1 rfl) ?_
        obtain ⟨ha, hb2⟩ := h
        refine lv_if_ne (tgt := 107) hx hb dX4_laggard_100 (by decide) (fun hc => ?_) (fun hc => ?_)
        · replace h := ha hc
          refine lv_aload_n hx hb dX4_laggard_107 rfl (lv_at hl 0 rfl) ?_
          obtain ⟨fs5, v6, hm7, hv8, h⟩ := h
          refine k_get (ci := 5) (C := RX4) (T := TX4) (N := 13) hx hb hts in_X4_laggard_X4 hown hK hR hm7 rfl 0 (by decide) hw1 (fun _ h9 => h9) hv8 dX4_laggard_108 ?_
          refine lv_iconst (v := (2 : Int32)) hx hb dX4_laggard_111 (by decide) ?_
          obtain ⟨n9, f10, hm11, hv12, h⟩ := h
          refine k_iald hx hb hK hR hm11 hv12 dX4_laggard_112 ?_
          refine lv_iload_n hx hb dX4_laggard_113 rfl (lv_at hl 3 rfl) ?_
          refine lv_isub hx hb dX4_laggard_114 ?_
          exact k_reti hx hb hr hlocks rfl hR hS h dX4_laggard_115
        · replace h := hb2 hc
          refine lv_iload_n hx hb dX4_laggard_103 rfl (lv_at hl 2 rfl) ?_
          refine lv_goto (tgt := 115) hx hb dX4_laggard_104 (by decide) ?_
          exact k_reti hx hb hr hlocks rfl hR hS h dX4_laggard_115
      · replace h := hb2 hc
        refine lv_aload_n hx hb dX4_laggard_27 rfl (lv_at hl 0 rfl) ?_
        obtain ⟨fs13, v14, hm15, hv16, h⟩ := h
        refine k_get (ci := 5) (C := RX4) (T := TX4) (N := 13) hx hb hts in_X4_laggard_X4 hown hK hR hm15 rfl 0 (by decide) hw1 (fun _ h9 => h9) hv16 dX4_laggard_28 ?_
        refine lv_iload hx hb dX4_laggard_31 (lv_at hl 4 rfl) ?_
        refine k_calli0 (va_runS (As := [.int x4]) (rest := [.ref v14]) ⟨hx, hb, hml, hown, hts⟩ (c_X4_helperAt l G _ _ _ x4 h) (va_cwS 1 hts gX4_laggard_X4_helperAt rfl rfl rfl (by decide +kernel) ⟨Nat.le_of_ble_eq_true rfl, Nat.le_of_ble_eq_true rfl⟩) (k_preS hR hS hA hE) rfl rfl hl.1 rfl (lv_room (Nat.le_of_ble_eq_true rfl)) dX4_laggard_33 ⟨Nat.zero_le _, Nat.zero_le _⟩) hR hS hA (fun r17 M18 H locs h hR hS => ?_)
        refine k_calli0 (va_runS (As := [.ref v14, .int r17]) (rest := []) ⟨hx, hb, hml, hown, hts⟩ (c_X4_knownMany l G _ _ _ v14 r17 h) (va_cwS 2 hts gX4_laggard_X4_knownMany rfl rfl rfl (by decide +kernel) ⟨Nat.le_of_ble_eq_true rfl, Nat.le_of_ble_eq_true rfl⟩) (k_preS hR hS hA hE) rfl rfl hl.1 rfl (lv_room (Nat.le_of_ble_eq_true rfl)) dX4_laggard_36 ⟨Nat.zero_le _, Nat.zero_le _⟩) hR hS hA (fun r20 M21 H locs h hR hS => ?_)
        refine lv_istore (lv' := [(5, .int r20), (0, .ref x0), (1, .int x1), (2, .int x2), (3, .int x3), (4, .int x4)]) hx hb dX4_laggard_39 hl (by decide) rfl (fun ls hl => ?_)
        refine lv_aload_n hx hb dX4_laggard_41 rfl (lv_at hl 1 rfl) ?_
        refine lv_iload hx hb dX4_laggard_42 (lv_at hl 5 rfl) ?_
        obtain ⟨fs26, hm25, h⟩ := h
        refine k_calli0 (va_runV (As := [.int x4]) (rest := []) ⟨hx, hb, hml, hown, hts⟩ (c_X4_isHelper l G _ _ _ x0 x4 h) (cwV 1 hts gX4_laggard_X4_isHelper rfl rfl rfl (by decide +kernel) ⟨Nat.le_of_ble_eq_true rfl, Nat.le_of_ble_eq_true rfl⟩) (k_preV (q := (RX4, TX4, 13)) hm25 rfl hR hS hA hE) rfl rfl hl.1 rfl (lv_room (Nat.le_of_ble_eq_true rfl)) dX4_laggard_44 ⟨Nat.zero_le _, Nat.zero_le _⟩) hR hS hA (fun r23 M24 H locs h hR hS => ?_)
        obtain ⟨ha, hb2⟩ := h
        refine lv_if_eq (tgt := 66) hx hb dX4_laggard_47 (by decide) (fun hc => ?_) (fun hc => ?_)
        · replace h := ha hc
          exact b66 _ ih _ _ _ _ _ _ _ _ _ _ h (lv_sub hl [1, 2, 3, 4, 5, 0] rfl) hR hS
        · replace h := hb2 hc
          refine lv_iload_n hx hb dX4_laggard_50 rfl (lv_at hl 3 rfl) ?_
          refine lv_bipush (v := (-6 : Int32)) hx hb dX4_laggard_51 (by decide) ?_
          obtain ⟨ha, hb2⟩ := h
          refine lv_icmp_eq (tgt := 62) hx hb dX4_laggard_53 (by decide) (fun hc => ?_) (fun hc => ?_)
          · replace h := ha hc
            exact b62 _ ih _ _ _ _ _ _ _ _ _ _ h (lv_sub hl [1, 2, 3, 4, 5, 0] rfl) hR hS
          · replace h := hb2 hc
            refine lv_iload hx hb dX4_laggard_56 (lv_at hl 0 rfl) ?_
            refine lv_iload_n hx hb dX4_laggard_58 rfl (lv_at hl 4 rfl) ?_
            obtain ⟨ha, hb2⟩ := h
            refine lv_icmp_ge (tgt := 66) hx hb dX4_laggard_59 (by decide) (fun hc => ?_) (fun hc => ?_)
            · replace h := ha hc
              exact b66 _ ih _ _ _ _ _ _ _ _ _ _ h (lv_sub hl [1, 2, 3, 4, 5, 0] rfl) hR hS
            · replace h := hb2 hc
              exact b62 _ ih _ _ _ _ _ _ _ _ _ _ h (lv_sub hl [1, 2, 3, 4, 5, 0] rfl) hR hS
  have hl := lv_entry ([.ref p0, .int p1]) (n := 7) (Nat.le_of_ble_eq_true rfl)
  rw [lg_entry_eq]
  generalize (lg_sl ([.ref p0, .int p1]) ++ List.replicate (7 - (lg_sl ([.ref p0, .int p1])).length) Slot.unset).toArray = ls at hl ⊢
  have hl : lv_has ls 7 [(0, .ref p0), (1, .int p1)] := hl
  have hR0 := hR
  refine lv_iload_n hx hb dX4_laggard_0 rfl (lv_at hl 1 rfl) ?_
  refine lv_iconst (v := (0 : Int32)) hx hb dX4_laggard_1 (by decide) ?_
  refine lv_iconst (v := (1 : Int32)) hx hb dX4_laggard_2 (by decide) ?_
  refine k_calli0 (va_runS (As := [.int p1, .int (0 : Int32), .int (1 : Int32)]) (rest := []) ⟨hx, hb, hml, hown, hts⟩ (c_X4_within l G _ _ _ p1 (0 : Int32) (1 : Int32) h) (va_cwS 3 hts gX4_laggard_X4_within rfl rfl rfl (by decide +kernel) ⟨Nat.le_of_ble_eq_true rfl, Nat.le_of_ble_eq_true rfl⟩) (k_preS hR hS hA hE) rfl rfl hl.1 rfl (lv_room (Nat.le_of_ble_eq_true rfl)) dX4_laggard_3 ⟨Nat.zero_le _, Nat.zero_le _⟩) hR hS hA (fun r1 M2 H locs h hR hS => ?_)
  obtain ⟨ha, hb2⟩ := h
  refine lv_if_ne (tgt := 12) hx hb dX4_laggard_6 (by decide) (fun hc => ?_) (fun hc => ?_)
  · replace h := ha hc
    refine lv_bipush (v := (-6 : Int32)) hx hb dX4_laggard_12 (by decide) ?_
    refine lv_istore_n (lv' := [(2, .int (-6 : Int32)), (0, .ref p0), (1, .int p1)]) hx hb dX4_laggard_14 rfl hl (by decide) rfl (fun ls hl => ?_)
    refine lv_iconst (v := (0 : Int32)) hx hb dX4_laggard_15 (by decide) ?_
    refine lv_istore_n (lv' := [(3, .int (0 : Int32)), (2, .int (-6 : Int32)), (0, .ref p0), (1, .int p1)]) hx hb dX4_laggard_16 rfl hl (by decide) rfl (fun ls hl => ?_)
    refine lv_iconst (v := (0 : Int32)) hx hb dX4_laggard_17 (by decide) ?_
    refine lv_istore (lv' := [(4, .int (0 : Int32)), (3, .int (0 : Int32)), (2, .int (-6 : Int32)), (0, .ref p0), (1, .int p1)]) hx hb dX4_laggard_18 hl (by decide) rfl (fun ls hl => ?_)
    obtain ⟨k4, h⟩ := h
    exact L20 k4 _ _ _ _ _ _ _ _ _ h (lv_sub hl [3, 4, 2, 1, 0] rfl) hR hS
  · replace h := hb2 hc
    refine lv_bipush (v := (-2 : Int32)) hx hb dX4_laggard_9 (by decide) ?_
    exact k_reti hx hb hr hlocks rfl hR hS h dX4_laggard_11

def wp_X4_put_L105 (G : k_G) (post : Int32 → k_M → Prop) : Nat → Nat → Int64 → Int32 → k_M → Prop
  | 0 => fun _ _ _ _ => False
  | n + 1 => fun x0 x1 x7 M =>
  ((x7 < 0 →
      (∃ fs7 v8, M x0 = some (kO 5 fs7) ∧ fs7[6]? = some (.int v8) ∧
        post v8 M)) ∧
      (¬ x7 < 0 →
      (∃ fs11 v12, M x0 = some (kO 5 fs11) ∧ fs11[5]? = some (.ref v12) ∧
        (∃ fs15 v16, M x0 = some (kO 5 fs15) ∧ fs15[6]? = some (.int v16) ∧
        (∃ n19 f20, M v12 = some (kI G n19 f20) ∧ vp_in v16 n19 ∧ ∀ M21 : k_M, M21 = va_up M v12 (some (kI G n19 (upd f20 (v16).toNatClampNeg ((((x1).toUInt64 >>> ((((8 : Int32) * x7)).toInt64.toUInt64 &&& Int64.toUInt64 63)).toInt64 &&& (255 : Int64))).toInt32))) →
        (∃ fs24 v25, M21 x0 = some (kO 5 fs24) ∧ fs24[6]? = some (.int v25) ∧
        (∃ fs28, M21 x0 = some (kO 5 fs28) ∧ 6 < fs28.length ∧ ∀ M29 : k_M, M29 = va_up M21 x0 (some (kO 5 (fs28.set 6 (.int (v25 + (1 : Int32)))))) →
        (wp_X4_put_L105 G post n) x0 x1 (x7 + (-1 : Int32)) M29)))))))
def wp_X4_put_b67 (G : k_G) (post : Int32 → k_M → Prop) (x0 : Nat) (x1 : Int64) (x3 : Int32) (x4 : Int64) (x6 : Int32) (M : k_M) : Prop :=
  ((x3 = 0 →
    post (-2 : Int32) M) ∧
    (¬ x3 = 0 →
    ((x6 = 0 →
      post (-2 : Int32) M) ∧
      (¬ x6 = 0 →
      (((lg_cmp x4 (0 : Int64)) = 0 →
        (∃ fs2 v3, M x0 = some (kO 5 fs2) ∧ fs2[6]? = some (.int v3) ∧
          (((v3 + x3) ≤ (64 : Int32) →
          ∃ k6, wp_X4_put_L105 G post k6 x0 x1 (x3 - (1 : Int32)) M) ∧
          (¬ (v3 + x3) ≤ (64 : Int32) →
          post (-4 : Int32) M)))) ∧
        (¬ (lg_cmp x4 (0 : Int64)) = 0 →
        post (-2 : Int32) M))))))
def wp_X4_put_b51 (G : k_G) (post : Int32 → k_M → Prop) (K8 : Nat → Int64 → Int32 → Int64 → Int32 → k_M → Prop) (x0 : Nat) (x1 : Int64) (x3 : Int32) (x4 : Int64) (M : k_M) : Prop :=
  (∀ y32 : Int64, y32 = ((x4).toUInt64 >>> (((8 : Int32)).toInt64.toUInt64 &&& Int64.toUInt64 63)).toInt64 →
    K8 x0 x1 (x3 + (1 : Int32)) y32 (0 : Int32) M)
def wp_X4_put_L8 (G : k_G) (post : Int32 → k_M → Prop) : Nat → Nat → Int64 → Int32 → Int64 → Int32 → k_M → Prop
  | 0 => fun _ _ _ _ _ _ => False
  | n + 1 => fun x0 x1 x3 x4 x6 M =>
  (((8 : Int32) ≤ x3 →
      wp_X4_put_b67 G post x0 x1 x3 x4 x6 M) ∧
      (¬ (8 : Int32) ≤ x3 →
      (((lg_cmp (x4 &&& (255 : Int64)) (0 : Int64)) = 0 →
        wp_X4_put_b67 G post x0 x1 x3 x4 x6 M) ∧
        (¬ (lg_cmp (x4 &&& (255 : Int64)) (0 : Int64)) = 0 →
        ((x6 = 0 →
          wp_X4_put_b51 G post (wp_X4_put_L8 G post n) x0 x1 x3 x4 M) ∧
          (¬ x6 = 0 →
          wp_X4_within G (fun r33 M34 =>
            ((r33 = 0 →
            wp_X4_put_b51 G post (wp_X4_put_L8 G post n) x0 x1 x3 x4 M34) ∧
            (¬ r33 = 0 →
            (∀ y36 : Int64, y36 = ((x4).toUInt64 >>> (((8 : Int32)).toInt64.toUInt64 &&& Int64.toUInt64 63)).toInt64 →
              (wp_X4_put_L8 G post n) x0 x1 (x3 + (1 : Int32)) y36 (1 : Int32) M34)))) ((x4 &&& (255 : Int64))).toInt32 (33 : Int32) (126 : Int32) M))))))
def wp_X4_put (G : k_G) (post : Int32 → k_M → Prop) (p0 : Nat) (p1 : Int64) (M0 : k_M) : Prop :=
  ∃ k1, wp_X4_put_L8 G post k1 p0 p1 (0 : Int32) p1 (1 : Int32) M0
theorem in_X4_put_X4 : ∀ w ∈ wsX40, w ∈ wsX4_put := by decide +kernel
set_option maxHeartbeats 4000000 in
set_option maxRecDepth 100000 in
theorem c_X4_put (l : Launch) (G : k_G) (M0 : k_M) (sz : Nat) (post : Int32 → k_M → Prop) (p0 : Nat) (p1 : Int64) (h : wp_X4_put G post p0 p1 M0) : Met l yX4_put wsX4_put ({ frames := 1, cells := 0, slots := 0, locals := 22 }) (va_Pc [.ref p0, .long p1] (kPre G M0 sz)) (va_Qi post (kB G M0 sz) (kA M0 sz)) 0 0 (kA M0 sz) := by
  refine Met.ofW (cc := cX4_put) (maxL := 8) (ret := (some .int)) (by decide) rfl ?_
  intro p e s m args below meth c s₁ B hml hv
  obtain ⟨rfl, hsz, hR, hE⟩ := hv
  have hx := B.exec
  have hb := B.bytes
  have hr := B.returns
  have hts := atoms_spec (ws := wsX4_put) B.pre
  have hown : s.vm.findClass RX4 = some m.cls := findClass_of_methodNamed B.named
  have hlocks := B.notSynchronized
  subst hsz
  have hK := hE.1
  have hA : ∀ q, s.heap.size ≤ q → kA M0 s.heap.size q := kA.new
  have hS : va_S (kA M0 s.heap.size) s.heap s.heap [] := va_S.rf
  have hw1 := hts (.fieldLink RX4 157 "ForkedStampsModel" "padLength" "I") (by decide +kernel)
  have hw2 := hts (.fieldLink RX4 22 "ForkedStampsModel" "pad" "[I") (by decide +kernel)
  have hw3 := hts (.constantLong RX4 167 (255)) (by decide +kernel)
  have L105 : ∀ (n : Nat), ∀ (x0 : Nat) (x1 : Int64) (x7 : Int32) (M : k_M) (H : Heap) (locs : List Loc) (ls : Array Slot), wp_X4_put_L105 G post n x0 x1 x7 M → lv_has ls 8 [(0, .ref x0), (1, .long x1), (7, .int x7)] → kR G M (kA M0 s.heap.size) H → va_S (kA M0 s.heap.size) s.heap H locs → W p l e (headSpec wsX4_put ({ frames := 1, cells := 0, slots := 0, locals := 22 })).room s m ([.ref p0, .long p1] : List Value).toArray below meth c H locs 0 0 (MQ below (va_Qi post (kB G M0 s.heap.size) (kA M0 s.heap.size)) ([.ref p0, .long p1] : List Value).toArray s 0 0 (kA M0 s.heap.size)) (F0 m 105 ls []) := by
    intro n
    induction n with
    | zero =>
      intro  x0 x1 x7 M H locs ls h
      exact False.elim h
    | succ n ih =>
      intro  x0 x1 x7 M H locs ls h hl hR hS
      refine lv_iload hx hb dX4_put_105 (lv_at hl 2 rfl) ?_
      obtain ⟨ha, hb2⟩ := h
      refine lv_if_lt (tgt := 147) hx hb dX4_put_107 (by decide) (fun hc => ?_) (fun hc => ?_)
      · replace h := ha hc
        refine lv_aload_n hx hb dX4_put_147 rfl (lv_at hl 0 rfl) ?_
        obtain ⟨fs7, v8, hm9, hv10, h⟩ := h
        refine k_get (ci := 5) (C := RX4) (T := TX4) (N := 13) hx hb hts in_X4_put_X4 hown hK hR hm9 rfl 6 (by decide) hw1 (fun _ h9 => h9) hv10 dX4_put_148 ?_
        exact k_reti hx hb hr hlocks rfl hR hS h dX4_put_151
      · replace h := hb2 hc
        refine lv_aload_n hx hb dX4_put_110 rfl (lv_at hl 0 rfl) ?_
        obtain ⟨fs11, v12, hm13, hv14, h⟩ := h
        refine k_get (ci := 5) (C := RX4) (T := TX4) (N := 13) hx hb hts in_X4_put_X4 hown hK hR hm13 rfl 5 (by decide) hw2 (fun _ h9 => h9) hv14 dX4_put_111 ?_
        refine lv_aload_n hx hb dX4_put_114 rfl (lv_at hl 0 rfl) ?_
        obtain ⟨fs15, v16, hm17, hv18, h⟩ := h
        refine k_get (ci := 5) (C := RX4) (T := TX4) (N := 13) hx hb hts in_X4_put_X4 hown hK hR hm17 rfl 6 (by decide) hw1 (fun _ h9 => h9) hv18 dX4_put_115 ?_
        refine lv_lload_n hx hb dX4_put_118 rfl (lv_at hl 1 rfl) ?_
        refine lv_bipush (v := (8 : Int32)) hx hb dX4_put_119 (by decide) ?_
        refine lv_iload hx hb dX4_put_121 (lv_at hl 2 rfl) ?_
        refine lv_imul hx hb dX4_put_123 ?_
        refine lv_lushr hx hb dX4_put_124 rfl ?_
        refine lv_ldc2 (v := (255 : Int64)) hx hb hown hw3 dX4_put_125 ?_
        refine lv_land hx hb dX4_put_128 ?_
        refine lv_l2i hx hb dX4_put_129 rfl ?_
        obtain ⟨n19, f20, hm22, hv23, h⟩ := h
        replace h := h _ rfl
        refine k_iast hx hb hK hR hS hm22 hv23 dX4_put_130 (fun H locs hR hS => ?_)
        refine lv_aload_n hx hb dX4_put_131 rfl (lv_at hl 0 rfl) ?_
        refine lv_dup hx hb dX4_put_132 rfl ?_
        obtain ⟨fs24, v25, hm26, hv27, h⟩ := h
        refine k_get (ci := 5) (C := RX4) (T := TX4) (N := 13) hx hb hts in_X4_put_X4 hown hK hR hm26 rfl 6 (by decide) hw1 (fun _ h9 => h9) hv27 dX4_put_133 ?_
        refine lv_iconst (v := (1 : Int32)) hx hb dX4_put_136 (by decide) ?_
        refine lv_iadd hx hb dX4_put_137 ?_
        obtain ⟨fs28, hm30, hk31, h⟩ := h
        replace h := h _ rfl
        refine k_put (ci := 5) (v := .int (v25 + (1 : Int32))) (ty := .int) (C := RX4) (T := TX4) (N := 13) hx hb hts in_X4_put_X4 tyX4 tyX4_ok nmX4 hown hK hR hS hm30 rfl 6 (by decide) hw1 (fun _ h9 => h9) rfl (by decide +kernel) rfl rfl hk31 dX4_put_138 (fun H locs hR hS => ?_)
        refine lv_iinc (v := (x7 + (-1 : Int32))) (lv' := [(7, .int (x7 + (-1 : Int32))), (0, .ref x0), (1, .long x1)]) hx hb dX4_put_141 hl (k := 2) rfl rfl (by decide) rfl (fun ls hl => ?_)
        refine lv_goto (tgt := 105) hx hb dX4_put_144 (by decide) ?_
        exact ih _ _ _ _ _ _ _ h (lv_sub hl [1, 2, 0] rfl) hR hS
  have b67 : ∀ (x0 : Nat) (x1 : Int64) (x3 : Int32) (x4 : Int64) (x6 : Int32) (M : k_M) (H : Heap) (locs : List Loc) (ls : Array Slot), wp_X4_put_b67 G post x0 x1 x3 x4 x6 M → lv_has ls 8 [(0, .ref x0), (1, .long x1), (3, .int x3), (4, .long x4), (6, .int x6)] → kR G M (kA M0 s.heap.size) H → va_S (kA M0 s.heap.size) s.heap H locs → W p l e (headSpec wsX4_put ({ frames := 1, cells := 0, slots := 0, locals := 22 })).room s m ([.ref p0, .long p1] : List Value).toArray below meth c H locs 0 0 (MQ below (va_Qi post (kB G M0 s.heap.size) (kA M0 s.heap.size)) ([.ref p0, .long p1] : List Value).toArray s 0 0 (kA M0 s.heap.size)) (F0 m 67 ls []) := by
    intro x0 x1 x3 x4 x6 M H locs ls h hl hR hS
    refine lv_iload_n hx hb dX4_put_67 rfl (lv_at hl 2 rfl) ?_
    obtain ⟨ha, hb2⟩ := h
    refine lv_if_eq (tgt := 83) hx hb dX4_put_68 (by decide) (fun hc => ?_) (fun hc => ?_)
    · replace h := ha hc
      refine lv_bipush (v := (-2 : Int32)) hx hb dX4_put_83 (by decide) ?_
      exact k_reti hx hb hr hlocks rfl hR hS h dX4_put_85
    · replace h := hb2 hc
      refine lv_iload hx hb dX4_put_71 (lv_at hl 4 rfl) ?_
      obtain ⟨ha, hb2⟩ := h
      refine lv_if_eq (tgt := 83) hx hb dX4_put_73 (by decide) (fun hc => ?_) (fun hc => ?_)
      · replace h := ha hc
        refine lv_bipush (v := (-2 : Int32)) hx hb dX4_put_83 (by decide) ?_
        exact k_reti hx hb hr hlocks rfl hR hS h dX4_put_85
      · replace h := hb2 hc
        refine lv_lload hx hb dX4_put_76 (lv_at hl 3 rfl) ?_
        refine lv_lconst (v := (0 : Int64)) hx hb dX4_put_78 (by decide) ?_
        refine W.lcmp hx hb dX4_put_79 ?_
        obtain ⟨ha, hb2⟩ := h
        refine lv_if_eq (tgt := 86) hx hb dX4_put_80 (by decide) (fun hc => ?_) (fun hc => ?_)
        · replace h := ha hc
          refine lv_aload_n hx hb dX4_put_86 rfl (lv_at hl 0 rfl) ?_
          obtain ⟨fs2, v3, hm4, hv5, h⟩ := h
          refine k_get (ci := 5) (C := RX4) (T := TX4) (N := 13) hx hb hts in_X4_put_X4 hown hK hR hm4 rfl 6 (by decide) hw1 (fun _ h9 => h9) hv5 dX4_put_87 ?_
          refine lv_iload_n hx hb dX4_put_90 rfl (lv_at hl 2 rfl) ?_
          refine lv_iadd hx hb dX4_put_91 ?_
          refine lv_bipush (v := (64 : Int32)) hx hb dX4_put_92 (by decide) ?_
          obtain ⟨ha, hb2⟩ := h
          refine lv_icmp_le (tgt := 100) hx hb dX4_put_94 (by decide) (fun hc => ?_) (fun hc => ?_)
          · replace h := ha hc
            refine lv_iload_n hx hb dX4_put_100 rfl (lv_at hl 2 rfl) ?_
            refine lv_iconst (v := (1 : Int32)) hx hb dX4_put_101 (by decide) ?_
            refine lv_isub hx hb dX4_put_102 ?_
            refine lv_istore (lv' := [(7, .int (x3 - (1 : Int32))), (0, .ref x0), (1, .long x1), (3, .int x3), (4, .long x4), (6, .int x6)]) hx hb dX4_put_103 hl (by decide) rfl (fun ls hl => ?_)
            obtain ⟨k6, h⟩ := h
            exact L105 k6 _ _ _ _ _ _ _ h (lv_sub hl [1, 2, 0] rfl) hR hS
          · replace h := hb2 hc
            refine lv_bipush (v := (-4 : Int32)) hx hb dX4_put_97 (by decide) ?_
            exact k_reti hx hb hr hlocks rfl hR hS h dX4_put_99
        · replace h := hb2 hc
          refine lv_bipush (v := (-2 : Int32)) hx hb dX4_put_83 (by decide) ?_
          exact k_reti hx hb hr hlocks rfl hR hS h dX4_put_85
  have b51 : ∀ (K8 : Nat → Int64 → Int32 → Int64 → Int32 → k_M → Prop) (hK8 : ∀ (x0 : Nat) (x1 : Int64) (x3 : Int32) (x4 : Int64) (x6 : Int32) (M : k_M) (H : Heap) (locs : List Loc) (ls : Array Slot), K8 x0 x1 x3 x4 x6 M → lv_has ls 8 [(0, .ref x0), (1, .long x1), (3, .int x3), (4, .long x4), (6, .int x6)] → kR G M (kA M0 s.heap.size) H → va_S (kA M0 s.heap.size) s.heap H locs → W p l e (headSpec wsX4_put ({ frames := 1, cells := 0, slots := 0, locals := 22 })).room s m ([.ref p0, .long p1] : List Value).toArray below meth c H locs 0 0 (MQ below (va_Qi post (kB G M0 s.heap.size) (kA M0 s.heap.size)) ([.ref p0, .long p1] : List Value).toArray s 0 0 (kA M0 s.heap.size)) (F0 m 8 ls [])), ∀ (x0 : Nat) (x1 : Int64) (x3 : Int32) (x4 : Int64) (M : k_M) (H : Heap) (locs : List Loc) (ls : Array Slot), wp_X4_put_b51 G post K8 x0 x1 x3 x4 M → lv_has ls 8 [(0, .ref x0), (1, .long x1), (3, .int x3), (4, .long x4)] → kR G M (kA M0 s.heap.size) H → va_S (kA M0 s.heap.size) s.heap H locs → W p l e (headSpec wsX4_put ({ frames := 1, cells := 0, slots := 0, locals := 22 })).room s m ([.ref p0, .long p1] : List Value).toArray below meth c H locs 0 0 (MQ below (va_Qi post (kB G M0 s.heap.size) (kA M0 s.heap.size)) ([.ref p0, .long p1] : List Value).toArray s 0 0 (kA M0 s.heap.size)) (F0 m 51 ls []) := by
    intro K8 hK8 x0 x1 x3 x4 M H locs ls h hl hR hS
    refine lv_iconst (v := (0 : Int32)) hx hb dX4_put_51 (by decide) ?_
    refine lv_istore (lv' := [(6, .int (0 : Int32)), (0, .ref x0), (1, .long x1), (3, .int x3), (4, .long x4)]) hx hb dX4_put_52 hl (by decide) rfl (fun ls hl => ?_)
    refine lv_lload hx hb dX4_put_54 (lv_at hl 4 rfl) ?_
    refine lv_bipush (v := (8 : Int32)) hx hb dX4_put_56 (by decide) ?_
    refine lv_lushr hx hb dX4_put_58 rfl ?_
    refine lv_topl (fun y32 ey32 => ?_)
    replace h := h y32 ey32
    refine lv_lstore (lv' := [(4, .long y32), (6, .int (0 : Int32)), (0, .ref x0), (1, .long x1), (3, .int x3)]) hx hb dX4_put_59 hl (by decide) rfl (fun ls hl => ?_)
    refine lv_iinc (v := (x3 + (1 : Int32))) (lv' := [(3, .int (x3 + (1 : Int32))), (4, .long y32), (6, .int (0 : Int32)), (0, .ref x0), (1, .long x1)]) hx hb dX4_put_61 hl (k := 4) rfl rfl (by decide) rfl (fun ls hl => ?_)
    refine lv_goto (tgt := 8) hx hb dX4_put_64 (by decide) ?_
    exact hK8 _ _ _ _ _ _ _ _ _ h (lv_sub hl [3, 4, 0, 1, 2] rfl) hR hS
  have L8 : ∀ (n : Nat), ∀ (x0 : Nat) (x1 : Int64) (x3 : Int32) (x4 : Int64) (x6 : Int32) (M : k_M) (H : Heap) (locs : List Loc) (ls : Array Slot), wp_X4_put_L8 G post n x0 x1 x3 x4 x6 M → lv_has ls 8 [(0, .ref x0), (1, .long x1), (3, .int x3), (4, .long x4), (6, .int x6)] → kR G M (kA M0 s.heap.size) H → va_S (kA M0 s.heap.size) s.heap H locs → W p l e (headSpec wsX4_put ({ frames := 1, cells := 0, slots := 0, locals := 22 })).room s m ([.ref p0, .long p1] : List Value).toArray below meth c H locs 0 0 (MQ below (va_Qi post (kB G M0 s.heap.size) (kA M0 s.heap.size)) ([.ref p0, .long p1] : List Value).toArray s 0 0 (kA M0 s.heap.size)) (F0 m 8 ls []) := by
    intro n
    induction n with
    | zero =>
      intro  x0 x1 x3 x4 x6 M H locs ls h
      exact False.elim h
    | succ n ih =>
      intro  x0 x1 x3 x4 x6 M H locs ls h hl hR hS
      refine lv_iload_n hx hb dX4_put_8 rfl (lv_at hl 2 rfl) ?_
      refine lv_bipush (v := (8 : Int32)) hx hb dX4_put_9 (by decide) ?_
      obtain ⟨ha, hb2⟩ := h
      refine lv_icmp_ge (tgt := 67) hx hb dX4_put_11 (by decide) (fun hc => ?_) (fun hc => ?_)
      · replace h := ha hc
        exact b67 _ _ _ _ _ _ _ _ _ h (lv_sub hl [0, 1, 2, 3, 4] rfl) hR hS
      · replace h := hb2 hc
        refine lv_lload hx hb dX4_put_14 (lv_at hl 3 rfl) ?_
        refine lv_ldc2 (v := (255 : Int64)) hx hb hown hw3 dX4_put_16 ?_
        refine lv_land hx hb dX4_put_19 ?_
        refine lv_lconst (v := (0 : Int64)) hx hb dX4_put_20 (by decide) ?_
        refine W.lcmp hx hb dX4_put_21 ?_
        obtain ⟨ha, hb2⟩ := h
        refine lv_if_eq (tgt := 67) hx hb dX4_put_22 (by decide) (fun hc => ?_) (fun hc => ?_)
        · replace h := ha hc
          exact b67 _ _ _ _ _ _ _ _ _ h (lv_sub hl [0, 1, 2, 3, 4] rfl) hR hS
        · replace h := hb2 hc
          refine lv_iload hx hb dX4_put_25 (lv_at hl 4 rfl) ?_
          obtain ⟨ha, hb2⟩ := h
          refine lv_if_eq (tgt := 51) hx hb dX4_put_27 (by decide) (fun hc => ?_) (fun hc => ?_)
          · replace h := ha hc
            exact b51 _ ih _ _ _ _ _ _ _ _ h (lv_sub hl [0, 1, 2, 3] rfl) hR hS
          · replace h := hb2 hc
            refine lv_lload hx hb dX4_put_30 (lv_at hl 3 rfl) ?_
            refine lv_ldc2 (v := (255 : Int64)) hx hb hown hw3 dX4_put_32 ?_
            refine lv_land hx hb dX4_put_35 ?_
            refine lv_l2i hx hb dX4_put_36 rfl ?_
            refine lv_bipush (v := (33 : Int32)) hx hb dX4_put_37 (by decide) ?_
            refine lv_bipush (v := (126 : Int32)) hx hb dX4_put_39 (by decide) ?_
            refine k_calli0 (va_runS (As := [.int ((x4 &&& (255 : Int64))).toInt32, .int (33 : Int32), .int (126 : Int32)]) (rest := []) ⟨hx, hb, hml, hown, hts⟩ (c_X4_within l G _ _ _ ((x4 &&& (255 : Int64))).toInt32 (33 : Int32) (126 : Int32) h) (va_cwS 3 hts gX4_put_X4_within rfl rfl rfl (by decide +kernel) ⟨Nat.le_of_ble_eq_true rfl, Nat.le_of_ble_eq_true rfl⟩) (k_preS hR hS hA hE) rfl rfl hl.1 rfl (lv_room (Nat.le_of_ble_eq_true rfl)) dX4_put_41 ⟨Nat.zero_le _, Nat.zero_le _⟩) hR hS hA (fun r33 M34 H locs h hR hS => ?_)
            obtain ⟨ha, hb2⟩ := h
            refine lv_if_eq (tgt := 51) hx hb dX4_put_44 (by decide) (fun hc => ?_) (fun hc => ?_)
            · replace h := ha hc
              exact b51 _ ih _ _ _ _ _ _ _ _ h (lv_sub hl [0, 1, 2, 3] rfl) hR hS
            · replace h := hb2 hc
              refine lv_iconst (v := (1 : Int32)) hx hb dX4_put_47 (by decide) ?_
              refine lv_goto (tgt := 52) hx hb dX4_put_48 (by decide) ?_
              refine lv_istore (lv' := [(6, .int (1 : Int32)), (0, .ref x0), (1, .long x1), (3, .int x3), (4, .long x4)]) hx hb dX4_put_52 hl (by decide) rfl (fun ls hl => ?_)
              refine lv_lload hx hb dX4_put_54 (lv_at hl 4 rfl) ?_
              refine lv_bipush (v := (8 : Int32)) hx hb dX4_put_56 (by decide) ?_
              refine lv_lushr hx hb dX4_put_58 rfl ?_
              refine lv_topl (fun y36 ey36 => ?_)
              replace h := h y36 ey36
              refine lv_lstore (lv' := [(4, .long y36), (6, .int (1 : Int32)), (0, .ref x0), (1, .long x1), (3, .int x3)]) hx hb dX4_put_59 hl (by decide) rfl (fun ls hl => ?_)
              refine lv_iinc (v := (x3 + (1 : Int32))) (lv' := [(3, .int (x3 + (1 : Int32))), (4, .long y36), (6, .int (1 : Int32)), (0, .ref x0), (1, .long x1)]) hx hb dX4_put_61 hl (k := 4) rfl rfl (by decide) rfl (fun ls hl => ?_)
              refine lv_goto (tgt := 8) hx hb dX4_put_64 (by decide) ?_
              exact ih _ _ _ _ _ _ _ _ _ h (lv_sub hl [3, 4, 0, 1, 2] rfl) hR hS
  have hl := lv_entry ([.ref p0, .long p1]) (n := 8) (Nat.le_of_ble_eq_true rfl)
  rw [lg_entry_eq]
  generalize (lg_sl ([.ref p0, .long p1]) ++ List.replicate (8 - (lg_sl ([.ref p0, .long p1])).length) Slot.unset).toArray = ls at hl ⊢
  have hl : lv_has ls 8 [(0, .ref p0), (1, .long p1)] := hl
  have hR0 := hR
  refine lv_iconst (v := (0 : Int32)) hx hb dX4_put_0 (by decide) ?_
  refine lv_istore_n (lv' := [(3, .int (0 : Int32)), (0, .ref p0), (1, .long p1)]) hx hb dX4_put_1 rfl hl (by decide) rfl (fun ls hl => ?_)
  refine lv_lload_n hx hb dX4_put_2 rfl (lv_at hl 2 rfl) ?_
  refine lv_lstore (lv' := [(4, .long p1), (3, .int (0 : Int32)), (0, .ref p0), (1, .long p1)]) hx hb dX4_put_3 hl (by decide) rfl (fun ls hl => ?_)
  refine lv_iconst (v := (1 : Int32)) hx hb dX4_put_5 (by decide) ?_
  refine lv_istore (lv' := [(6, .int (1 : Int32)), (4, .long p1), (3, .int (0 : Int32)), (0, .ref p0), (1, .long p1)]) hx hb dX4_put_6 hl (by decide) rfl (fun ls hl => ?_)
  obtain ⟨k1, h⟩ := h
  exact L8 k1 _ _ _ _ _ _ _ _ _ h (lv_sub hl [3, 4, 2, 1, 0] rfl) hR hS

def wp_X4_wipe (G : k_G) (post : Int32 → k_M → Prop) (p0 : Nat) (M0 : k_M) : Prop :=
  (∃ fs1 v2, M0 p0 = some (kO 5 fs1) ∧ fs1[6]? = some (.int v2) ∧
  (∃ fs5, M0 p0 = some (kO 5 fs5) ∧ 6 < fs5.length ∧ ∀ M6 : k_M, M6 = va_up M0 p0 (some (kO 5 (fs5.set 6 (.int (0 : Int32))))) →
  post v2 M6))
theorem in_X4_wipe_X4 : ∀ w ∈ wsX40, w ∈ wsX4_wipe := by decide +kernel
set_option maxHeartbeats 4000000 in
set_option maxRecDepth 100000 in
theorem c_X4_wipe (l : Launch) (G : k_G) (M0 : k_M) (sz : Nat) (post : Int32 → k_M → Prop) (p0 : Nat) (h : wp_X4_wipe G post p0 M0) : Met l yX4_wipe wsX4_wipe ({ frames := 0, cells := 0, slots := 0, locals := 0 }) (va_Pc [.ref p0] (kPre G M0 sz)) (va_Qi post (kB G M0 sz) (kA M0 sz)) 0 0 (kA M0 sz) := by
  refine Met.ofW (cc := cX4_wipe) (maxL := 2) (ret := (some .int)) (by decide) rfl ?_
  intro p e s m args below meth c s₁ B hml hv
  obtain ⟨rfl, hsz, hR, hE⟩ := hv
  have hx := B.exec
  have hb := B.bytes
  have hr := B.returns
  have hts := atoms_spec (ws := wsX4_wipe) B.pre
  have hown : s.vm.findClass RX4 = some m.cls := findClass_of_methodNamed B.named
  have hlocks := B.notSynchronized
  subst hsz
  have hK := hE.1
  have hA : ∀ q, s.heap.size ≤ q → kA M0 s.heap.size q := kA.new
  have hS : va_S (kA M0 s.heap.size) s.heap s.heap [] := va_S.rf
  have hw1 := hts (.fieldLink RX4 157 "ForkedStampsModel" "padLength" "I") (by decide +kernel)
  have hl := lv_entry ([.ref p0]) (n := 2) (Nat.le_of_ble_eq_true rfl)
  rw [lg_entry_eq]
  generalize (lg_sl ([.ref p0]) ++ List.replicate (2 - (lg_sl ([.ref p0])).length) Slot.unset).toArray = ls at hl ⊢
  have hl : lv_has ls 2 [(0, .ref p0)] := hl
  have hR0 := hR
  refine lv_aload_n hx hb dX4_wipe_0 rfl (lv_at hl 0 rfl) ?_
  obtain ⟨fs1, v2, hm3, hv4, h⟩ := h
  refine k_get (ci := 5) (C := RX4) (T := TX4) (N := 13) hx hb hts in_X4_wipe_X4 hown hK hR hm3 rfl 6 (by decide) hw1 (fun _ h9 => h9) hv4 dX4_wipe_1 ?_
  refine lv_istore_n (lv' := [(1, .int v2), (0, .ref p0)]) hx hb dX4_wipe_4 rfl hl (by decide) rfl (fun ls hl => ?_)
  refine lv_aload_n hx hb dX4_wipe_5 rfl (lv_at hl 1 rfl) ?_
  refine lv_iconst (v := (0 : Int32)) hx hb dX4_wipe_6 (by decide) ?_
  obtain ⟨fs5, hm7, hk8, h⟩ := h
  replace h := h _ rfl
  refine k_put (ci := 5) (v := .int (0 : Int32)) (ty := .int) (C := RX4) (T := TX4) (N := 13) hx hb hts in_X4_wipe_X4 tyX4 tyX4_ok nmX4 hown hK hR hS hm7 rfl 6 (by decide) hw1 (fun _ h9 => h9) rfl (by decide +kernel) rfl rfl hk8 dX4_wipe_7 (fun H locs hR hS => ?_)
  refine lv_iload_n hx hb dX4_wipe_10 rfl (lv_at hl 0 rfl) ?_
  exact k_reti hx hb hr hlocks rfl hR hS h dX4_wipe_11

def wp_X4_fault (G : k_G) (post : Int32 → k_M → Prop) (p0 : Nat) (M0 : k_M) : Prop :=
  (∃ fs4, M0 p0 = some (kO 5 fs4) ∧ wp_X4_findFault G (fun r1 M2 =>
  post r1 M2) p0 M0)
set_option maxHeartbeats 4000000 in
set_option maxRecDepth 100000 in
theorem c_X4_fault (l : Launch) (G : k_G) (M0 : k_M) (sz : Nat) (post : Int32 → k_M → Prop) (p0 : Nat) (h : wp_X4_fault G post p0 M0) : Met l yX4_fault wsX4_fault ({ frames := 2, cells := 0, slots := 0, locals := 48 }) (va_Pc [.ref p0] (kPre G M0 sz)) (va_Qi post (kB G M0 sz) (kA M0 sz)) 0 0 (kA M0 sz) := by
  refine Met.ofW (cc := cX4_fault) (maxL := 1) (ret := (some .int)) (by decide) rfl ?_
  intro p e s m args below meth c s₁ B hml hv
  obtain ⟨rfl, hsz, hR, hE⟩ := hv
  have hx := B.exec
  have hb := B.bytes
  have hr := B.returns
  have hts := atoms_spec (ws := wsX4_fault) B.pre
  have hown : s.vm.findClass RX4 = some m.cls := findClass_of_methodNamed B.named
  have hlocks := B.notSynchronized
  subst hsz
  have hK := hE.1
  have hA : ∀ q, s.heap.size ≤ q → kA M0 s.heap.size q := kA.new
  have hS : va_S (kA M0 s.heap.size) s.heap s.heap [] := va_S.rf
  have hl := lv_entry ([.ref p0]) (n := 1) (Nat.le_of_ble_eq_true rfl)
  rw [lg_entry_eq]
  generalize (lg_sl ([.ref p0]) ++ List.replicate (1 - (lg_sl ([.ref p0])).length) Slot.unset).toArray = ls at hl ⊢
  have hl : lv_has ls 1 [(0, .ref p0)] := hl
  have hR0 := hR
  refine lv_aload_n hx hb dX4_fault_0 rfl (lv_at hl 0 rfl) ?_
  obtain ⟨fs4, hm3, h⟩ := h
  refine k_calli0 (va_runV (As := []) (rest := []) ⟨hx, hb, hml, hown, hts⟩ (c_X4_findFault l G _ _ _ p0 h) (cwV 0 hts gX4_fault_X4_findFault rfl rfl rfl (by decide +kernel) ⟨Nat.le_of_ble_eq_true rfl, Nat.le_of_ble_eq_true rfl⟩) (k_preV (q := (RX4, TX4, 13)) hm3 rfl hR hS hA hE) rfl rfl hl.1 rfl (lv_room (Nat.le_of_ble_eq_true rfl)) dX4_fault_1 ⟨Nat.zero_le _, Nat.zero_le _⟩) hR hS hA (fun r1 M2 H locs h hR hS => ?_)
  exact k_reti hx hb hr hlocks rfl hR hS h dX4_fault_4

def wp_X4_undo (G : k_G) (post : Int32 → k_M → Prop) (p0 : Nat) (M0 : k_M) : Prop :=
  (∃ fs1 v2, M0 p0 = some (kO 5 fs1) ∧ fs1[2]? = some (.int v2) ∧
  ((¬ v2 = 0 →
  (∃ fs5 v6, M0 p0 = some (kO 5 fs5) ∧ fs5[2]? = some (.int v6) ∧
    (∃ fs9, M0 p0 = some (kO 5 fs9) ∧ 2 < fs9.length ∧ ∀ M10 : k_M, M10 = va_up M0 p0 (some (kO 5 (fs9.set 2 (.int (v6 - (1 : Int32)))))) →
    (∃ fs13 v14, M10 p0 = some (kO 5 fs13) ∧ fs13[1]? = some (.ref v14) ∧
    (∃ fs17 v18, M10 p0 = some (kO 5 fs17) ∧ fs17[2]? = some (.int v18) ∧
    (∃ fs21 v22, M10 p0 = some (kO 5 fs21) ∧ fs21[0]? = some (.ref v22) ∧
    wp_X4_moves G (fun M26 =>
    (∃ fs28 v29, M26 p0 = some (kO 5 fs28) ∧ fs28[2]? = some (.int v29) ∧
    post v29 M26)) v14 (v18 * (459 : Int32)) v22 (0 : Int32) (459 : Int32) M10)))))) ∧
  (v2 = 0 →
  post (-5 : Int32) M0)))
theorem in_X4_undo_X4 : ∀ w ∈ wsX40, w ∈ wsX4_undo := by decide +kernel
set_option maxHeartbeats 4000000 in
set_option maxRecDepth 100000 in
theorem c_X4_undo (l : Launch) (G : k_G) (M0 : k_M) (sz : Nat) (post : Int32 → k_M → Prop) (p0 : Nat) (h : wp_X4_undo G post p0 M0) : Met l yX4_undo wsX4_undo ({ frames := 1, cells := 0, slots := 0, locals := 25 }) (va_Pc [.ref p0] (kPre G M0 sz)) (va_Qi post (kB G M0 sz) (kA M0 sz)) 0 0 (kA M0 sz) := by
  refine Met.ofW (cc := cX4_undo) (maxL := 1) (ret := (some .int)) (by decide) rfl ?_
  intro p e s m args below meth c s₁ B hml hv
  obtain ⟨rfl, hsz, hR, hE⟩ := hv
  have hx := B.exec
  have hb := B.bytes
  have hr := B.returns
  have hts := atoms_spec (ws := wsX4_undo) B.pre
  have hown : s.vm.findClass RX4 = some m.cls := findClass_of_methodNamed B.named
  have hlocks := B.notSynchronized
  subst hsz
  have hK := hE.1
  have hA : ∀ q, s.heap.size ≤ q → kA M0 s.heap.size q := kA.new
  have hS : va_S (kA M0 s.heap.size) s.heap s.heap [] := va_S.rf
  have hw1 := hts (.fieldLink RX4 41 "ForkedStampsModel" "recorded" "I") (by decide +kernel)
  have hw2 := hts (.fieldLink RX4 13 "ForkedStampsModel" "history" "[I") (by decide +kernel)
  have hw3 := hts (.fieldLink RX4 7 "ForkedStampsModel" "state" "[I") (by decide +kernel)
  have hl := lv_entry ([.ref p0]) (n := 1) (Nat.le_of_ble_eq_true rfl)
  rw [lg_entry_eq]
  generalize (lg_sl ([.ref p0]) ++ List.replicate (1 - (lg_sl ([.ref p0])).length) Slot.unset).toArray = ls at hl ⊢
  have hl : lv_has ls 1 [(0, .ref p0)] := hl
  have hR0 := hR
  refine lv_aload_n hx hb dX4_undo_0 rfl (lv_at hl 0 rfl) ?_
  obtain ⟨fs1, v2, hm3, hv4, h⟩ := h
  refine k_get (ci := 5) (C := RX4) (T := TX4) (N := 13) hx hb hts in_X4_undo_X4 hown hK hR hm3 rfl 2 (by decide) hw1 (fun _ h9 => h9) hv4 dX4_undo_1 ?_
  obtain ⟨ha, hb2⟩ := h
  refine lv_if_ne (tgt := 10) hx hb dX4_undo_4 (by decide) (fun hc => ?_) (fun hc => ?_)
  · replace h := ha hc
    refine lv_aload_n hx hb dX4_undo_10 rfl (lv_at hl 0 rfl) ?_
    refine lv_dup hx hb dX4_undo_11 rfl ?_
    obtain ⟨fs5, v6, hm7, hv8, h⟩ := h
    refine k_get (ci := 5) (C := RX4) (T := TX4) (N := 13) hx hb hts in_X4_undo_X4 hown hK hR hm7 rfl 2 (by decide) hw1 (fun _ h9 => h9) hv8 dX4_undo_12 ?_
    refine lv_iconst (v := (1 : Int32)) hx hb dX4_undo_15 (by decide) ?_
    refine lv_isub hx hb dX4_undo_16 ?_
    obtain ⟨fs9, hm11, hk12, h⟩ := h
    replace h := h _ rfl
    refine k_put (ci := 5) (v := .int (v6 - (1 : Int32))) (ty := .int) (C := RX4) (T := TX4) (N := 13) hx hb hts in_X4_undo_X4 tyX4 tyX4_ok nmX4 hown hK hR hS hm11 rfl 2 (by decide) hw1 (fun _ h9 => h9) rfl (by decide +kernel) rfl rfl hk12 dX4_undo_17 (fun H locs hR hS => ?_)
    refine lv_aload_n hx hb dX4_undo_20 rfl (lv_at hl 0 rfl) ?_
    obtain ⟨fs13, v14, hm15, hv16, h⟩ := h
    refine k_get (ci := 5) (C := RX4) (T := TX4) (N := 13) hx hb hts in_X4_undo_X4 hown hK hR hm15 rfl 1 (by decide) hw2 (fun _ h9 => h9) hv16 dX4_undo_21 ?_
    refine lv_aload_n hx hb dX4_undo_24 rfl (lv_at hl 0 rfl) ?_
    obtain ⟨fs17, v18, hm19, hv20, h⟩ := h
    refine k_get (ci := 5) (C := RX4) (T := TX4) (N := 13) hx hb hts in_X4_undo_X4 hown hK hR hm19 rfl 2 (by decide) hw1 (fun _ h9 => h9) hv20 dX4_undo_25 ?_
    refine lv_sipush (v := (459 : Int32)) hx hb dX4_undo_28 (by decide) ?_
    refine lv_imul hx hb dX4_undo_31 ?_
    refine lv_aload_n hx hb dX4_undo_32 rfl (lv_at hl 0 rfl) ?_
    obtain ⟨fs21, v22, hm23, hv24, h⟩ := h
    refine k_get (ci := 5) (C := RX4) (T := TX4) (N := 13) hx hb hts in_X4_undo_X4 hown hK hR hm23 rfl 0 (by decide) hw3 (fun _ h9 => h9) hv24 dX4_undo_33 ?_
    refine lv_iconst (v := (0 : Int32)) hx hb dX4_undo_36 (by decide) ?_
    refine lv_sipush (v := (459 : Int32)) hx hb dX4_undo_37 (by decide) ?_
    refine k_callv0 (va_runS (As := [.ref v14, .int (v18 * (459 : Int32)), .ref v22, .int (0 : Int32), .int (459 : Int32)]) (rest := []) ⟨hx, hb, hml, hown, hts⟩ (c_X4_moves l G _ _ _ v14 (v18 * (459 : Int32)) v22 (0 : Int32) (459 : Int32) h) (va_cwS 5 hts gX4_undo_X4_moves rfl rfl rfl (by decide +kernel) ⟨Nat.le_of_ble_eq_true rfl, Nat.le_of_ble_eq_true rfl⟩) (k_preS hR hS hA hE) rfl rfl hl.1 rfl (lv_room (Nat.le_of_ble_eq_true rfl)) dX4_undo_40 ⟨Nat.zero_le _, Nat.zero_le _⟩) hR hS hA (fun M26 H locs h hR hS => ?_)
    refine lv_aload_n hx hb dX4_undo_43 rfl (lv_at hl 0 rfl) ?_
    obtain ⟨fs28, v29, hm30, hv31, h⟩ := h
    refine k_get (ci := 5) (C := RX4) (T := TX4) (N := 13) hx hb hts in_X4_undo_X4 hown hK hR hm30 rfl 2 (by decide) hw1 (fun _ h9 => h9) hv31 dX4_undo_44 ?_
    exact k_reti hx hb hr hlocks rfl hR hS h dX4_undo_47
  · replace h := hb2 hc
    refine lv_bipush (v := (-5 : Int32)) hx hb dX4_undo_7 (by decide) ?_
    exact k_reti hx hb hr hlocks rfl hR hS h dX4_undo_9

def wp_X4_save (G : k_G) (post : Int32 → k_M → Prop) (p0 : Nat) (p1 : Int32) (M0 : k_M) : Prop :=
  wp_X4_within G (fun r1 M2 =>
  ((¬ r1 = 0 →
  (∃ fs4 v5, M2 p0 = some (kO 5 fs4) ∧ fs4[0]? = some (.ref v5) ∧
    (∃ fs8 v9, M2 p0 = some (kO 5 fs8) ∧ fs8[3]? = some (.ref v9) ∧
    wp_X4_moves G (fun M13 =>
    (∃ fs15 v16, M13 p0 = some (kO 5 fs15) ∧ fs15[4]? = some (.ref v16) ∧
    (∃ n19 f20, M13 v16 = some (kI G n19 f20) ∧ vp_in p1 n19 ∧ ∀ M21 : k_M, M21 = va_up M13 v16 (some (kI G n19 (upd f20 (p1).toNatClampNeg (1 : Int32)))) →
    (∃ fs24 v25, M21 p0 = some (kO 5 fs24) ∧ fs24[0]? = some (.ref v25) ∧
    (∃ n28 f29, M21 v25 = some (kI G n28 f29) ∧ vp_in (2 : Int32) n28 ∧
    post (f29 ((2 : Int32)).toNatClampNeg) M21))))) v5 (0 : Int32) v9 ((459 : Int32) * p1) (459 : Int32) M2))) ∧
  (r1 = 0 →
  post (-2 : Int32) M2))) p1 (0 : Int32) (1 : Int32) M0
theorem in_X4_save_X4 : ∀ w ∈ wsX40, w ∈ wsX4_save := by decide +kernel
set_option maxHeartbeats 4000000 in
set_option maxRecDepth 100000 in
theorem c_X4_save (l : Launch) (G : k_G) (M0 : k_M) (sz : Nat) (post : Int32 → k_M → Prop) (p0 : Nat) (p1 : Int32) (h : wp_X4_save G post p0 p1 M0) : Met l yX4_save wsX4_save ({ frames := 1, cells := 0, slots := 0, locals := 25 }) (va_Pc [.ref p0, .int p1] (kPre G M0 sz)) (va_Qi post (kB G M0 sz) (kA M0 sz)) 0 0 (kA M0 sz) := by
  refine Met.ofW (cc := cX4_save) (maxL := 2) (ret := (some .int)) (by decide) rfl ?_
  intro p e s m args below meth c s₁ B hml hv
  obtain ⟨rfl, hsz, hR, hE⟩ := hv
  have hx := B.exec
  have hb := B.bytes
  have hr := B.returns
  have hts := atoms_spec (ws := wsX4_save) B.pre
  have hown : s.vm.findClass RX4 = some m.cls := findClass_of_methodNamed B.named
  have hlocks := B.notSynchronized
  subst hsz
  have hK := hE.1
  have hA : ∀ q, s.heap.size ≤ q → kA M0 s.heap.size q := kA.new
  have hS : va_S (kA M0 s.heap.size) s.heap s.heap [] := va_S.rf
  have hw1 := hts (.fieldLink RX4 7 "ForkedStampsModel" "state" "[I") (by decide +kernel)
  have hw2 := hts (.fieldLink RX4 16 "ForkedStampsModel" "slots" "[I") (by decide +kernel)
  have hw3 := hts (.fieldLink RX4 19 "ForkedStampsModel" "isSaved" "[I") (by decide +kernel)
  have hl := lv_entry ([.ref p0, .int p1]) (n := 2) (Nat.le_of_ble_eq_true rfl)
  rw [lg_entry_eq]
  generalize (lg_sl ([.ref p0, .int p1]) ++ List.replicate (2 - (lg_sl ([.ref p0, .int p1])).length) Slot.unset).toArray = ls at hl ⊢
  have hl : lv_has ls 2 [(0, .ref p0), (1, .int p1)] := hl
  have hR0 := hR
  refine lv_iload_n hx hb dX4_save_0 rfl (lv_at hl 1 rfl) ?_
  refine lv_iconst (v := (0 : Int32)) hx hb dX4_save_1 (by decide) ?_
  refine lv_iconst (v := (1 : Int32)) hx hb dX4_save_2 (by decide) ?_
  refine k_calli0 (va_runS (As := [.int p1, .int (0 : Int32), .int (1 : Int32)]) (rest := []) ⟨hx, hb, hml, hown, hts⟩ (c_X4_within l G _ _ _ p1 (0 : Int32) (1 : Int32) h) (va_cwS 3 hts gX4_save_X4_within rfl rfl rfl (by decide +kernel) ⟨Nat.le_of_ble_eq_true rfl, Nat.le_of_ble_eq_true rfl⟩) (k_preS hR hS hA hE) rfl rfl hl.1 rfl (lv_room (Nat.le_of_ble_eq_true rfl)) dX4_save_3 ⟨Nat.zero_le _, Nat.zero_le _⟩) hR hS hA (fun r1 M2 H locs h hR hS => ?_)
  obtain ⟨ha, hb2⟩ := h
  refine lv_if_ne (tgt := 12) hx hb dX4_save_6 (by decide) (fun hc => ?_) (fun hc => ?_)
  · replace h := ha hc
    refine lv_aload_n hx hb dX4_save_12 rfl (lv_at hl 0 rfl) ?_
    obtain ⟨fs4, v5, hm6, hv7, h⟩ := h
    refine k_get (ci := 5) (C := RX4) (T := TX4) (N := 13) hx hb hts in_X4_save_X4 hown hK hR hm6 rfl 0 (by decide) hw1 (fun _ h9 => h9) hv7 dX4_save_13 ?_
    refine lv_iconst (v := (0 : Int32)) hx hb dX4_save_16 (by decide) ?_
    refine lv_aload_n hx hb dX4_save_17 rfl (lv_at hl 0 rfl) ?_
    obtain ⟨fs8, v9, hm10, hv11, h⟩ := h
    refine k_get (ci := 5) (C := RX4) (T := TX4) (N := 13) hx hb hts in_X4_save_X4 hown hK hR hm10 rfl 3 (by decide) hw2 (fun _ h9 => h9) hv11 dX4_save_18 ?_
    refine lv_sipush (v := (459 : Int32)) hx hb dX4_save_21 (by decide) ?_
    refine lv_iload_n hx hb dX4_save_24 rfl (lv_at hl 1 rfl) ?_
    refine lv_imul hx hb dX4_save_25 ?_
    refine lv_sipush (v := (459 : Int32)) hx hb dX4_save_26 (by decide) ?_
    refine k_callv0 (va_runS (As := [.ref v5, .int (0 : Int32), .ref v9, .int ((459 : Int32) * p1), .int (459 : Int32)]) (rest := []) ⟨hx, hb, hml, hown, hts⟩ (c_X4_moves l G _ _ _ v5 (0 : Int32) v9 ((459 : Int32) * p1) (459 : Int32) h) (va_cwS 5 hts gX4_save_X4_moves rfl rfl rfl (by decide +kernel) ⟨Nat.le_of_ble_eq_true rfl, Nat.le_of_ble_eq_true rfl⟩) (k_preS hR hS hA hE) rfl rfl hl.1 rfl (lv_room (Nat.le_of_ble_eq_true rfl)) dX4_save_29 ⟨Nat.zero_le _, Nat.zero_le _⟩) hR hS hA (fun M13 H locs h hR hS => ?_)
    refine lv_aload_n hx hb dX4_save_32 rfl (lv_at hl 0 rfl) ?_
    obtain ⟨fs15, v16, hm17, hv18, h⟩ := h
    refine k_get (ci := 5) (C := RX4) (T := TX4) (N := 13) hx hb hts in_X4_save_X4 hown hK hR hm17 rfl 4 (by decide) hw3 (fun _ h9 => h9) hv18 dX4_save_33 ?_
    refine lv_iload_n hx hb dX4_save_36 rfl (lv_at hl 1 rfl) ?_
    refine lv_iconst (v := (1 : Int32)) hx hb dX4_save_37 (by decide) ?_
    obtain ⟨n19, f20, hm22, hv23, h⟩ := h
    replace h := h _ rfl
    refine k_iast hx hb hK hR hS hm22 hv23 dX4_save_38 (fun H locs hR hS => ?_)
    refine lv_aload_n hx hb dX4_save_39 rfl (lv_at hl 0 rfl) ?_
    obtain ⟨fs24, v25, hm26, hv27, h⟩ := h
    refine k_get (ci := 5) (C := RX4) (T := TX4) (N := 13) hx hb hts in_X4_save_X4 hown hK hR hm26 rfl 0 (by decide) hw1 (fun _ h9 => h9) hv27 dX4_save_40 ?_
    refine lv_iconst (v := (2 : Int32)) hx hb dX4_save_43 (by decide) ?_
    obtain ⟨n28, f29, hm30, hv31, h⟩ := h
    refine k_iald hx hb hK hR hm30 hv31 dX4_save_44 ?_
    exact k_reti hx hb hr hlocks rfl hR hS h dX4_save_45
  · replace h := hb2 hc
    refine lv_bipush (v := (-2 : Int32)) hx hb dX4_save_9 (by decide) ?_
    exact k_reti hx hb hr hlocks rfl hR hS h dX4_save_11

def wp_X4_restore (G : k_G) (post : Int32 → k_M → Prop) (p0 : Nat) (p1 : Int32) (M0 : k_M) : Prop :=
  wp_X4_within G (fun r1 M2 =>
  ((¬ r1 = 0 →
  (∃ fs4 v5, M2 p0 = some (kO 5 fs4) ∧ fs4[4]? = some (.ref v5) ∧
    (∃ n8 f9, M2 v5 = some (kI G n8 f9) ∧ vp_in p1 n8 ∧
    ((¬ (f9 (p1).toNatClampNeg) = 0 →
    (∃ fs15, M2 p0 = some (kO 5 fs15) ∧ wp_X4_record G (fun M13 =>
      (∃ fs16 v17, M13 p0 = some (kO 5 fs16) ∧ fs16[3]? = some (.ref v17) ∧
      (∃ fs20 v21, M13 p0 = some (kO 5 fs20) ∧ fs20[0]? = some (.ref v21) ∧
      wp_X4_moves G (fun M25 =>
      (∃ fs27 v28, M25 p0 = some (kO 5 fs27) ∧ fs27[0]? = some (.ref v28) ∧
      (∃ n31 f32, M25 v28 = some (kI G n31 f32) ∧ vp_in (2 : Int32) n31 ∧
      post (f32 ((2 : Int32)).toNatClampNeg) M25))) v17 ((459 : Int32) * p1) v21 (0 : Int32) (459 : Int32) M13))) p0 M2)) ∧
    ((f9 (p1).toNatClampNeg) = 0 →
    post (-5 : Int32) M2))))) ∧
  (r1 = 0 →
  post (-2 : Int32) M2))) p1 (0 : Int32) (1 : Int32) M0
theorem in_X4_restore_X4 : ∀ w ∈ wsX40, w ∈ wsX4_restore := by decide +kernel
set_option maxHeartbeats 4000000 in
set_option maxRecDepth 100000 in
theorem c_X4_restore (l : Launch) (G : k_G) (M0 : k_M) (sz : Nat) (post : Int32 → k_M → Prop) (p0 : Nat) (p1 : Int32) (h : wp_X4_restore G post p0 p1 M0) : Met l yX4_restore wsX4_restore ({ frames := 2, cells := 0, slots := 0, locals := 46 }) (va_Pc [.ref p0, .int p1] (kPre G M0 sz)) (va_Qi post (kB G M0 sz) (kA M0 sz)) 0 0 (kA M0 sz) := by
  refine Met.ofW (cc := cX4_restore) (maxL := 2) (ret := (some .int)) (by decide) rfl ?_
  intro p e s m args below meth c s₁ B hml hv
  obtain ⟨rfl, hsz, hR, hE⟩ := hv
  have hx := B.exec
  have hb := B.bytes
  have hr := B.returns
  have hts := atoms_spec (ws := wsX4_restore) B.pre
  have hown : s.vm.findClass RX4 = some m.cls := findClass_of_methodNamed B.named
  have hlocks := B.notSynchronized
  subst hsz
  have hK := hE.1
  have hA : ∀ q, s.heap.size ≤ q → kA M0 s.heap.size q := kA.new
  have hS : va_S (kA M0 s.heap.size) s.heap s.heap [] := va_S.rf
  have hw1 := hts (.fieldLink RX4 19 "ForkedStampsModel" "isSaved" "[I") (by decide +kernel)
  have hw2 := hts (.fieldLink RX4 16 "ForkedStampsModel" "slots" "[I") (by decide +kernel)
  have hw3 := hts (.fieldLink RX4 7 "ForkedStampsModel" "state" "[I") (by decide +kernel)
  have hl := lv_entry ([.ref p0, .int p1]) (n := 2) (Nat.le_of_ble_eq_true rfl)
  rw [lg_entry_eq]
  generalize (lg_sl ([.ref p0, .int p1]) ++ List.replicate (2 - (lg_sl ([.ref p0, .int p1])).length) Slot.unset).toArray = ls at hl ⊢
  have hl : lv_has ls 2 [(0, .ref p0), (1, .int p1)] := hl
  have hR0 := hR
  refine lv_iload_n hx hb dX4_restore_0 rfl (lv_at hl 1 rfl) ?_
  refine lv_iconst (v := (0 : Int32)) hx hb dX4_restore_1 (by decide) ?_
  refine lv_iconst (v := (1 : Int32)) hx hb dX4_restore_2 (by decide) ?_
  refine k_calli0 (va_runS (As := [.int p1, .int (0 : Int32), .int (1 : Int32)]) (rest := []) ⟨hx, hb, hml, hown, hts⟩ (c_X4_within l G _ _ _ p1 (0 : Int32) (1 : Int32) h) (va_cwS 3 hts gX4_restore_X4_within rfl rfl rfl (by decide +kernel) ⟨Nat.le_of_ble_eq_true rfl, Nat.le_of_ble_eq_true rfl⟩) (k_preS hR hS hA hE) rfl rfl hl.1 rfl (lv_room (Nat.le_of_ble_eq_true rfl)) dX4_restore_3 ⟨Nat.zero_le _, Nat.zero_le _⟩) hR hS hA (fun r1 M2 H locs h hR hS => ?_)
  obtain ⟨ha, hb2⟩ := h
  refine lv_if_ne (tgt := 12) hx hb dX4_restore_6 (by decide) (fun hc => ?_) (fun hc => ?_)
  · replace h := ha hc
    refine lv_aload_n hx hb dX4_restore_12 rfl (lv_at hl 0 rfl) ?_
    obtain ⟨fs4, v5, hm6, hv7, h⟩ := h
    refine k_get (ci := 5) (C := RX4) (T := TX4) (N := 13) hx hb hts in_X4_restore_X4 hown hK hR hm6 rfl 4 (by decide) hw1 (fun _ h9 => h9) hv7 dX4_restore_13 ?_
    refine lv_iload_n hx hb dX4_restore_16 rfl (lv_at hl 1 rfl) ?_
    obtain ⟨n8, f9, hm10, hv11, h⟩ := h
    refine k_iald hx hb hK hR hm10 hv11 dX4_restore_17 ?_
    obtain ⟨ha, hb2⟩ := h
    refine lv_if_ne (tgt := 24) hx hb dX4_restore_18 (by decide) (fun hc => ?_) (fun hc => ?_)
    · replace h := ha hc
      refine lv_aload_n hx hb dX4_restore_24 rfl (lv_at hl 0 rfl) ?_
      obtain ⟨fs15, hm14, h⟩ := h
      refine k_callv0 (va_runV (As := []) (rest := []) ⟨hx, hb, hml, hown, hts⟩ (c_X4_record l G _ _ _ p0 h) (cwV 0 hts gX4_restore_X4_record rfl rfl rfl (by decide +kernel) ⟨Nat.le_of_ble_eq_true rfl, Nat.le_of_ble_eq_true rfl⟩) (k_preV (q := (RX4, TX4, 13)) hm14 rfl hR hS hA hE) rfl rfl hl.1 rfl (lv_room (Nat.le_of_ble_eq_true rfl)) dX4_restore_25 ⟨Nat.zero_le _, Nat.zero_le _⟩) hR hS hA (fun M13 H locs h hR hS => ?_)
      refine lv_aload_n hx hb dX4_restore_28 rfl (lv_at hl 0 rfl) ?_
      obtain ⟨fs16, v17, hm18, hv19, h⟩ := h
      refine k_get (ci := 5) (C := RX4) (T := TX4) (N := 13) hx hb hts in_X4_restore_X4 hown hK hR hm18 rfl 3 (by decide) hw2 (fun _ h9 => h9) hv19 dX4_restore_29 ?_
      refine lv_sipush (v := (459 : Int32)) hx hb dX4_restore_32 (by decide) ?_
      refine lv_iload_n hx hb dX4_restore_35 rfl (lv_at hl 1 rfl) ?_
      refine lv_imul hx hb dX4_restore_36 ?_
      refine lv_aload_n hx hb dX4_restore_37 rfl (lv_at hl 0 rfl) ?_
      obtain ⟨fs20, v21, hm22, hv23, h⟩ := h
      refine k_get (ci := 5) (C := RX4) (T := TX4) (N := 13) hx hb hts in_X4_restore_X4 hown hK hR hm22 rfl 0 (by decide) hw3 (fun _ h9 => h9) hv23 dX4_restore_38 ?_
      refine lv_iconst (v := (0 : Int32)) hx hb dX4_restore_41 (by decide) ?_
      refine lv_sipush (v := (459 : Int32)) hx hb dX4_restore_42 (by decide) ?_
      refine k_callv0 (va_runS (As := [.ref v17, .int ((459 : Int32) * p1), .ref v21, .int (0 : Int32), .int (459 : Int32)]) (rest := []) ⟨hx, hb, hml, hown, hts⟩ (c_X4_moves l G _ _ _ v17 ((459 : Int32) * p1) v21 (0 : Int32) (459 : Int32) h) (va_cwS 5 hts gX4_restore_X4_moves rfl rfl rfl (by decide +kernel) ⟨Nat.le_of_ble_eq_true rfl, Nat.le_of_ble_eq_true rfl⟩) (k_preS hR hS hA hE) rfl rfl hl.1 rfl (lv_room (Nat.le_of_ble_eq_true rfl)) dX4_restore_45 ⟨Nat.zero_le _, Nat.zero_le _⟩) hR hS hA (fun M25 H locs h hR hS => ?_)
      refine lv_aload_n hx hb dX4_restore_48 rfl (lv_at hl 0 rfl) ?_
      obtain ⟨fs27, v28, hm29, hv30, h⟩ := h
      refine k_get (ci := 5) (C := RX4) (T := TX4) (N := 13) hx hb hts in_X4_restore_X4 hown hK hR hm29 rfl 0 (by decide) hw3 (fun _ h9 => h9) hv30 dX4_restore_49 ?_
      refine lv_iconst (v := (2 : Int32)) hx hb dX4_restore_52 (by decide) ?_
      obtain ⟨n31, f32, hm33, hv34, h⟩ := h
      refine k_iald hx hb hK hR hm33 hv34 dX4_restore_53 ?_
      exact k_reti hx hb hr hlocks rfl hR hS h dX4_restore_54
    · replace h := hb2 hc
      refine lv_bipush (v := (-5 : Int32)) hx hb dX4_restore_21 (by decide) ?_
      exact k_reti hx hb hr hlocks rfl hR hS h dX4_restore_23
  · replace h := hb2 hc
    refine lv_bipush (v := (-2 : Int32)) hx hb dX4_restore_9 (by decide) ?_
    exact k_reti hx hb hr hlocks rfl hR hS h dX4_restore_11
