/-! ===== the law: its calls, 4 ===== -/
set_option maxHeartbeats 4000000 in
set_option maxRecDepth 100000 in
theorem lc_put {p : Program} {l : Launch} {e : Env} {s : State} {m : MethodId} {below : List Frame} {meth : Method} {c : Code} {b L : Nat} {xs : Nat → Int32} {G : k_G} {Q : State → Prop} (C0 : lw_At p s m meth c b L xs) (hE : kE G (fun q : Nat => s.heap.size ≤ q) s)
    {x y : Nat} {F : kF} {M : k_M} {H : Heap} {locs : List Loc} {k0 : Int32} {ls : Array Slot} {cells slots : Nat} (h1 : vp_in (k0 + (1 : Int32)) L) (h2 : vp_in (k0 + (2 : Int32)) L) (h3 : vp_in (k0 + (3 : Int32)) L) (h4 : vp_in (k0 + (4 : Int32)) L)
    (hok : okF F) (hI : lI G M x y F F) (hR : kR G M (fun q : Nat => s.heap.size ≤ q) H) (hS : va_S (fun q : Nat => s.heap.size ≤ q) s.heap H locs) (hl : lv_has ls 4 [(0, .ref b), (1, .ref x), (2, .ref y), (3, .int k0)]) (hc1 : cells + 62 ≤ 600000) (hc2 : slots + 8804 ≤ 7302250)
    (kk : ∀ (F1 : kF) (M1 : k_M) (H1 : Heap) (locs1 : List Loc), okF F1 → lI G M1 x y F1 F1 → kR G M1 (fun q : Nat => s.heap.size ≤ q) H1 → va_S (fun q : Nat => s.heap.size ≤ q) s.heap H1 locs1 → W p l e room_1 s m #[Value.ref b] below meth c H1 locs1 (cells + 62) (slots + 8804) Q (F0 m 866 ls [])) :
    W p l e room_1 s m #[Value.ref b] below meth c H locs cells slots Q (F0 m 728 ls []) := by
  obtain ⟨hx, hb, hr, hml, hown0, hts0, hX, hbl, hlocks, hgv⟩ := id C0
  have hts := lw_hts hts0
  have hA : ∀ q : Nat, s.heap.size ≤ q → (fun q : Nat => s.heap.size ≤ q) q := fun _ h => h
  have hbA : ¬ (fun q : Nat => s.heap.size ≤ q) b := Nat.not_le.mpr hbl
  have hown : s.vm.findClass RL = some m.cls := hown0
  have hz1 : cells + 0 ≤ room_1.cells := by show cells + 0 ≤ 600000; omega
  have hz2 : slots + 0 ≤ room_1.slots := by show slots + 0 ≤ 7302250; omega
  have hz3 : cells + 62 ≤ room_1.cells := hc1
  have hz4 : slots + 8804 ≤ room_1.slots := hc2
  have hz5 : cells + 62 + 0 ≤ room_1.cells := hc1
  have hz6 : slots + 8804 + 0 ≤ room_1.slots := hc2
  refine lv_aload_n hx hb dL_law_728 rfl (lv_at hl 1 rfl) ?_
  refine lv_aload_n hx hb dL_law_729 rfl (lv_at hl 0 rfl) ?_
  refine lv_iload_n hx hb dL_law_730 rfl (lv_at hl 3 rfl) ?_
  refine lv_iconst (v := (1 : Int32)) hx hb dL_law_731 (by decide) ?_
  refine lv_iadd hx hb dL_law_732 ?_
  refine va_sld hx hb hX hbl hbA hS h1 dL_law_733 ?_
  refine lv_i2l hx hb dL_law_734 rfl ?_
  refine lv_bipush (v := (32 : Int32)) hx hb dL_law_735 (by decide) ?_
  refine lv_lshl hx hb dL_law_737 rfl ?_
  refine lv_aload_n hx hb dL_law_738 rfl (lv_at hl 0 rfl) ?_
  refine lv_iload_n hx hb dL_law_739 rfl (lv_at hl 3 rfl) ?_
  refine lv_iconst (v := (2 : Int32)) hx hb dL_law_740 (by decide) ?_
  refine lv_iadd hx hb dL_law_741 ?_
  refine va_sld hx hb hX hbl hbA hS h2 dL_law_742 ?_
  refine lv_i2l hx hb dL_law_743 rfl ?_
  refine lv_ldc2 (v := (4294967295 : Int64)) hx hb hown (hts (.constantLong RL 89 (4294967295)) (by decide +kernel)) dL_law_744 ?_
  refine lv_land hx hb dL_law_747 ?_
  refine lv_lor hx hb dL_law_748 ?_
  refine lv_topl (fun V eV => ?_)
  obtain ⟨u, hu, rfl⟩ : ∃ u : Nat, u < 2 ^ 64 ∧ V = lN u := ⟨uL V, V.toBitVec.isLt, (lN_uL V).symm⟩
  obtain ⟨fs0, hm0⟩ := hI.cx
  refine k_calli0 (va_runV (As := [.long (lN u)]) (rest := []) ⟨hx, hb, hml, hown, hts⟩ (c_X3_put l G _ _ _ x (lN u) (l_put hu hok hI)) (cwV 1 hts gL_law_X3_put rfl rfl rfl (by decide +kernel) ⟨Nat.le_of_ble_eq_true rfl, Nat.le_of_ble_eq_true rfl⟩) (k_preV (q := (RX3, TX3, 8)) hm0 rfl hR hS hA hE) rfl rfl hl.1 rfl (lv_room (Nat.le_of_ble_eq_true rfl)) dL_law_749 ⟨hz1, hz2⟩) hR hS hA (fun v1 M0 H0 locs0 hv hR hS => ?_)
  obtain ⟨e1, hI⟩ := hv
  refine lv_aload_n hx hb dL_law_752 rfl (lv_at hl 2 rfl) ?_
  refine lv_aload_n hx hb dL_law_753 rfl (lv_at hl 0 rfl) ?_
  refine lv_iload_n hx hb dL_law_754 rfl (lv_at hl 3 rfl) ?_
  refine lv_iconst (v := (1 : Int32)) hx hb dL_law_755 (by decide) ?_
  refine lv_iadd hx hb dL_law_756 ?_
  refine va_sld hx hb hX hbl hbA hS h1 dL_law_757 ?_
  refine lv_i2l hx hb dL_law_758 rfl ?_
  refine lv_bipush (v := (32 : Int32)) hx hb dL_law_759 (by decide) ?_
  refine lv_lshl hx hb dL_law_761 rfl ?_
  refine lv_aload_n hx hb dL_law_762 rfl (lv_at hl 0 rfl) ?_
  refine lv_iload_n hx hb dL_law_763 rfl (lv_at hl 3 rfl) ?_
  refine lv_iconst (v := (2 : Int32)) hx hb dL_law_764 (by decide) ?_
  refine lv_iadd hx hb dL_law_765 ?_
  refine va_sld hx hb hX hbl hbA hS h2 dL_law_766 ?_
  refine lv_i2l hx hb dL_law_767 rfl ?_
  refine lv_ldc2 (v := (4294967295 : Int64)) hx hb hown (hts (.constantLong RL 89 (4294967295)) (by decide +kernel)) dL_law_768 ?_
  refine lv_land hx hb dL_law_771 ?_
  refine lv_lor hx hb dL_law_772 ?_
  rw [← eV]
  obtain ⟨fs1, hm1⟩ := hI.cy
  refine k_calli0 (va_runV (As := [.long (lN u)]) (rest := [.int v1]) ⟨hx, hb, hml, hown, hts⟩ (c_X4_put l G _ _ _ y (lN u) (r_put hu hok hI)) (cwV 1 hts gL_law_X4_put rfl rfl rfl (by decide +kernel) ⟨Nat.le_of_ble_eq_true rfl, Nat.le_of_ble_eq_true rfl⟩) (k_preV (q := (RX4, TX4, 13)) hm1 rfl hR hS hA hE) rfl rfl hl.1 rfl (lv_room (Nat.le_of_ble_eq_true rfl)) dL_law_773 ⟨hz1, hz2⟩) hR hS hA (fun v2 M1 H1 locs1 hv hR hS => ?_)
  obtain ⟨e2, hI⟩ := hv
  refine lv_icmp_eq (tgt := 866) hx hb dL_law_776 (by decide) (fun _ => ?_) (fun z => absurd (e1.trans e2.symm) z)
  refine W.widen (k := cells + 62) (n := slots + 8804) (Nat.le_add_right _ _) (Nat.le_add_right _ _) ?_
  exact kk _ _ _ _ (ok_put hok u) hI hR hS
set_option maxHeartbeats 4000000 in
set_option maxRecDepth 100000 in
theorem lc_wipe {p : Program} {l : Launch} {e : Env} {s : State} {m : MethodId} {below : List Frame} {meth : Method} {c : Code} {b L : Nat} {xs : Nat → Int32} {G : k_G} {Q : State → Prop} (C0 : lw_At p s m meth c b L xs) (hE : kE G (fun q : Nat => s.heap.size ≤ q) s)
    {x y : Nat} {F : kF} {M : k_M} {H : Heap} {locs : List Loc} {k0 : Int32} {ls : Array Slot} {cells slots : Nat} (h1 : vp_in (k0 + (1 : Int32)) L) (h2 : vp_in (k0 + (2 : Int32)) L) (h3 : vp_in (k0 + (3 : Int32)) L) (h4 : vp_in (k0 + (4 : Int32)) L)
    (hok : okF F) (hI : lI G M x y F F) (hR : kR G M (fun q : Nat => s.heap.size ≤ q) H) (hS : va_S (fun q : Nat => s.heap.size ≤ q) s.heap H locs) (hl : lv_has ls 4 [(0, .ref b), (1, .ref x), (2, .ref y), (3, .int k0)]) (hc1 : cells + 62 ≤ 600000) (hc2 : slots + 8804 ≤ 7302250)
    (kk : ∀ (F1 : kF) (M1 : k_M) (H1 : Heap) (locs1 : List Loc), okF F1 → lI G M1 x y F1 F1 → kR G M1 (fun q : Nat => s.heap.size ≤ q) H1 → va_S (fun q : Nat => s.heap.size ≤ q) s.heap H1 locs1 → W p l e room_1 s m #[Value.ref b] below meth c H1 locs1 (cells + 62) (slots + 8804) Q (F0 m 866 ls [])) :
    W p l e room_1 s m #[Value.ref b] below meth c H locs cells slots Q (F0 m 781 ls []) := by
  obtain ⟨hx, hb, hr, hml, hown0, hts0, hX, hbl, hlocks, hgv⟩ := id C0
  have hts := lw_hts hts0
  have hA : ∀ q : Nat, s.heap.size ≤ q → (fun q : Nat => s.heap.size ≤ q) q := fun _ h => h
  have hbA : ¬ (fun q : Nat => s.heap.size ≤ q) b := Nat.not_le.mpr hbl
  have hown : s.vm.findClass RL = some m.cls := hown0
  have hz1 : cells + 0 ≤ room_1.cells := by show cells + 0 ≤ 600000; omega
  have hz2 : slots + 0 ≤ room_1.slots := by show slots + 0 ≤ 7302250; omega
  have hz3 : cells + 62 ≤ room_1.cells := hc1
  have hz4 : slots + 8804 ≤ room_1.slots := hc2
  have hz5 : cells + 62 + 0 ≤ room_1.cells := hc1
  have hz6 : slots + 8804 + 0 ≤ room_1.slots := hc2
  refine lv_aload_n hx hb dL_law_781 rfl (lv_at hl 1 rfl) ?_
  obtain ⟨fs0, hm0⟩ := hI.cx
  refine k_calli0 (va_runV (As := []) (rest := []) ⟨hx, hb, hml, hown, hts⟩ (c_X3_wipe l G _ _ _ x (l_wipe hok hI)) (cwV 0 hts gL_law_X3_wipe rfl rfl rfl (by decide +kernel) ⟨Nat.le_of_ble_eq_true rfl, Nat.le_of_ble_eq_true rfl⟩) (k_preV (q := (RX3, TX3, 8)) hm0 rfl hR hS hA hE) rfl rfl hl.1 rfl (lv_room (Nat.le_of_ble_eq_true rfl)) dL_law_782 ⟨hz1, hz2⟩) hR hS hA (fun v1 M0 H0 locs0 hv hR hS => ?_)
  obtain ⟨e1, hI⟩ := hv
  refine lv_aload_n hx hb dL_law_785 rfl (lv_at hl 2 rfl) ?_
  obtain ⟨fs1, hm1⟩ := hI.cy
  refine k_calli0 (va_runV (As := []) (rest := [.int v1]) ⟨hx, hb, hml, hown, hts⟩ (c_X4_wipe l G _ _ _ y (r_wipe hok hI)) (cwV 0 hts gL_law_X4_wipe rfl rfl rfl (by decide +kernel) ⟨Nat.le_of_ble_eq_true rfl, Nat.le_of_ble_eq_true rfl⟩) (k_preV (q := (RX4, TX4, 13)) hm1 rfl hR hS hA hE) rfl rfl hl.1 rfl (lv_room (Nat.le_of_ble_eq_true rfl)) dL_law_786 ⟨hz1, hz2⟩) hR hS hA (fun v2 M1 H1 locs1 hv hR hS => ?_)
  obtain ⟨e2, hI⟩ := hv
  refine lv_icmp_eq (tgt := 866) hx hb dL_law_789 (by decide) (fun _ => ?_) (fun z => absurd (e1.trans e2.symm) z)
  refine W.widen (k := cells + 62) (n := slots + 8804) (Nat.le_add_right _ _) (Nat.le_add_right _ _) ?_
  exact kk _ _ _ _ (ok_wipe hok) hI hR hS
set_option maxHeartbeats 4000000 in
set_option maxRecDepth 100000 in
theorem lc_fault {p : Program} {l : Launch} {e : Env} {s : State} {m : MethodId} {below : List Frame} {meth : Method} {c : Code} {b L : Nat} {xs : Nat → Int32} {G : k_G} {Q : State → Prop} (C0 : lw_At p s m meth c b L xs) (hE : kE G (fun q : Nat => s.heap.size ≤ q) s)
    {x y : Nat} {F : kF} {M : k_M} {H : Heap} {locs : List Loc} {k0 : Int32} {ls : Array Slot} {cells slots : Nat} (h1 : vp_in (k0 + (1 : Int32)) L) (h2 : vp_in (k0 + (2 : Int32)) L) (h3 : vp_in (k0 + (3 : Int32)) L) (h4 : vp_in (k0 + (4 : Int32)) L)
    (hok : okF F) (hI : lI G M x y F F) (hR : kR G M (fun q : Nat => s.heap.size ≤ q) H) (hS : va_S (fun q : Nat => s.heap.size ≤ q) s.heap H locs) (hl : lv_has ls 4 [(0, .ref b), (1, .ref x), (2, .ref y), (3, .int k0)]) (hc1 : cells + 62 ≤ 600000) (hc2 : slots + 8804 ≤ 7302250)
    (kk : ∀ (F1 : kF) (M1 : k_M) (H1 : Heap) (locs1 : List Loc), okF F1 → lI G M1 x y F1 F1 → kR G M1 (fun q : Nat => s.heap.size ≤ q) H1 → va_S (fun q : Nat => s.heap.size ≤ q) s.heap H1 locs1 → W p l e room_1 s m #[Value.ref b] below meth c H1 locs1 (cells + 62) (slots + 8804) Q (F0 m 866 ls [])) :
    W p l e room_1 s m #[Value.ref b] below meth c H locs cells slots Q (F0 m 794 ls []) := by
  obtain ⟨hx, hb, hr, hml, hown0, hts0, hX, hbl, hlocks, hgv⟩ := id C0
  have hts := lw_hts hts0
  have hA : ∀ q : Nat, s.heap.size ≤ q → (fun q : Nat => s.heap.size ≤ q) q := fun _ h => h
  have hbA : ¬ (fun q : Nat => s.heap.size ≤ q) b := Nat.not_le.mpr hbl
  have hown : s.vm.findClass RL = some m.cls := hown0
  have hz1 : cells + 0 ≤ room_1.cells := by show cells + 0 ≤ 600000; omega
  have hz2 : slots + 0 ≤ room_1.slots := by show slots + 0 ≤ 7302250; omega
  have hz3 : cells + 62 ≤ room_1.cells := hc1
  have hz4 : slots + 8804 ≤ room_1.slots := hc2
  have hz5 : cells + 62 + 0 ≤ room_1.cells := hc1
  have hz6 : slots + 8804 + 0 ≤ room_1.slots := hc2
  refine lv_aload_n hx hb dL_law_794 rfl (lv_at hl 1 rfl) ?_
  obtain ⟨fs0, hm0⟩ := hI.cx
  refine k_calli0 (va_runV (As := []) (rest := []) ⟨hx, hb, hml, hown, hts⟩ (c_X3_fault l G _ _ _ x (l_fault hok hI)) (cwV 0 hts gL_law_X3_fault rfl rfl rfl (by decide +kernel) ⟨Nat.le_of_ble_eq_true rfl, Nat.le_of_ble_eq_true rfl⟩) (k_preV (q := (RX3, TX3, 8)) hm0 rfl hR hS hA hE) rfl rfl hl.1 rfl (lv_room (Nat.le_of_ble_eq_true rfl)) dL_law_795 ⟨hz1, hz2⟩) hR hS hA (fun v1 M0 H0 locs0 hv hR hS => ?_)
  obtain ⟨e1, hI⟩ := hv
  refine lv_aload_n hx hb dL_law_798 rfl (lv_at hl 2 rfl) ?_
  obtain ⟨fs1, hm1⟩ := hI.cy
  refine k_calli0 (va_runV (As := []) (rest := [.int v1]) ⟨hx, hb, hml, hown, hts⟩ (c_X4_fault l G _ _ _ y (r_fault hok hI)) (cwV 0 hts gL_law_X4_fault rfl rfl rfl (by decide +kernel) ⟨Nat.le_of_ble_eq_true rfl, Nat.le_of_ble_eq_true rfl⟩) (k_preV (q := (RX4, TX4, 13)) hm1 rfl hR hS hA hE) rfl rfl hl.1 rfl (lv_room (Nat.le_of_ble_eq_true rfl)) dL_law_799 ⟨hz1, hz2⟩) hR hS hA (fun v2 M1 H1 locs1 hv hR hS => ?_)
  obtain ⟨e2, hI⟩ := hv
  refine lv_icmp_eq (tgt := 866) hx hb dL_law_802 (by decide) (fun _ => ?_) (fun z => absurd (e1.trans e2.symm) z)
  refine W.widen (k := cells + 62) (n := slots + 8804) (Nat.le_add_right _ _) (Nat.le_add_right _ _) ?_
  exact kk _ _ _ _ hok hI hR hS
set_option maxHeartbeats 4000000 in
set_option maxRecDepth 100000 in
theorem lc_undo {p : Program} {l : Launch} {e : Env} {s : State} {m : MethodId} {below : List Frame} {meth : Method} {c : Code} {b L : Nat} {xs : Nat → Int32} {G : k_G} {Q : State → Prop} (C0 : lw_At p s m meth c b L xs) (hE : kE G (fun q : Nat => s.heap.size ≤ q) s)
    {x y : Nat} {F : kF} {M : k_M} {H : Heap} {locs : List Loc} {k0 : Int32} {ls : Array Slot} {cells slots : Nat} (h1 : vp_in (k0 + (1 : Int32)) L) (h2 : vp_in (k0 + (2 : Int32)) L) (h3 : vp_in (k0 + (3 : Int32)) L) (h4 : vp_in (k0 + (4 : Int32)) L)
    (hok : okF F) (hI : lI G M x y F F) (hR : kR G M (fun q : Nat => s.heap.size ≤ q) H) (hS : va_S (fun q : Nat => s.heap.size ≤ q) s.heap H locs) (hl : lv_has ls 4 [(0, .ref b), (1, .ref x), (2, .ref y), (3, .int k0)]) (hc1 : cells + 62 ≤ 600000) (hc2 : slots + 8804 ≤ 7302250)
    (kk : ∀ (F1 : kF) (M1 : k_M) (H1 : Heap) (locs1 : List Loc), okF F1 → lI G M1 x y F1 F1 → kR G M1 (fun q : Nat => s.heap.size ≤ q) H1 → va_S (fun q : Nat => s.heap.size ≤ q) s.heap H1 locs1 → W p l e room_1 s m #[Value.ref b] below meth c H1 locs1 (cells + 62) (slots + 8804) Q (F0 m 866 ls [])) :
    W p l e room_1 s m #[Value.ref b] below meth c H locs cells slots Q (F0 m 807 ls []) := by
  obtain ⟨hx, hb, hr, hml, hown0, hts0, hX, hbl, hlocks, hgv⟩ := id C0
  have hts := lw_hts hts0
  have hA : ∀ q : Nat, s.heap.size ≤ q → (fun q : Nat => s.heap.size ≤ q) q := fun _ h => h
  have hbA : ¬ (fun q : Nat => s.heap.size ≤ q) b := Nat.not_le.mpr hbl
  have hown : s.vm.findClass RL = some m.cls := hown0
  have hz1 : cells + 0 ≤ room_1.cells := by show cells + 0 ≤ 600000; omega
  have hz2 : slots + 0 ≤ room_1.slots := by show slots + 0 ≤ 7302250; omega
  have hz3 : cells + 62 ≤ room_1.cells := hc1
  have hz4 : slots + 8804 ≤ room_1.slots := hc2
  have hz5 : cells + 62 + 0 ≤ room_1.cells := hc1
  have hz6 : slots + 8804 + 0 ≤ room_1.slots := hc2
  refine lv_aload_n hx hb dL_law_807 rfl (lv_at hl 1 rfl) ?_
  obtain ⟨fs0, hm0⟩ := hI.cx
  refine k_calli0 (va_runV (As := []) (rest := []) ⟨hx, hb, hml, hown, hts⟩ (c_X3_undo l G _ _ _ x (l_undo hok hI)) (cwV 0 hts gL_law_X3_undo rfl rfl rfl (by decide +kernel) ⟨Nat.le_of_ble_eq_true rfl, Nat.le_of_ble_eq_true rfl⟩) (k_preV (q := (RX3, TX3, 8)) hm0 rfl hR hS hA hE) rfl rfl hl.1 rfl (lv_room (Nat.le_of_ble_eq_true rfl)) dL_law_808 ⟨hz1, hz2⟩) hR hS hA (fun v1 M0 H0 locs0 hv hR hS => ?_)
  obtain ⟨e1, hI⟩ := hv
  refine lv_aload_n hx hb dL_law_811 rfl (lv_at hl 2 rfl) ?_
  obtain ⟨fs1, hm1⟩ := hI.cy
  refine k_calli0 (va_runV (As := []) (rest := [.int v1]) ⟨hx, hb, hml, hown, hts⟩ (c_X4_undo l G _ _ _ y (r_undo hok hI)) (cwV 0 hts gL_law_X4_undo rfl rfl rfl (by decide +kernel) ⟨Nat.le_of_ble_eq_true rfl, Nat.le_of_ble_eq_true rfl⟩) (k_preV (q := (RX4, TX4, 13)) hm1 rfl hR hS hA hE) rfl rfl hl.1 rfl (lv_room (Nat.le_of_ble_eq_true rfl)) dL_law_812 ⟨hz1, hz2⟩) hR hS hA (fun v2 M1 H1 locs1 hv hR hS => ?_)
  obtain ⟨e2, hI⟩ := hv
  refine lv_icmp_eq (tgt := 866) hx hb dL_law_815 (by decide) (fun _ => ?_) (fun z => absurd (e1.trans e2.symm) z)
  refine W.widen (k := cells + 62) (n := slots + 8804) (Nat.le_add_right _ _) (Nat.le_add_right _ _) ?_
  exact kk _ _ _ _ (ok_undo hok) hI hR hS
set_option maxHeartbeats 4000000 in
set_option maxRecDepth 100000 in
theorem lc_save {p : Program} {l : Launch} {e : Env} {s : State} {m : MethodId} {below : List Frame} {meth : Method} {c : Code} {b L : Nat} {xs : Nat → Int32} {G : k_G} {Q : State → Prop} (C0 : lw_At p s m meth c b L xs) (hE : kE G (fun q : Nat => s.heap.size ≤ q) s)
    {x y : Nat} {F : kF} {M : k_M} {H : Heap} {locs : List Loc} {k0 : Int32} {ls : Array Slot} {cells slots : Nat} (h1 : vp_in (k0 + (1 : Int32)) L) (h2 : vp_in (k0 + (2 : Int32)) L) (h3 : vp_in (k0 + (3 : Int32)) L) (h4 : vp_in (k0 + (4 : Int32)) L)
    (hok : okF F) (hI : lI G M x y F F) (hR : kR G M (fun q : Nat => s.heap.size ≤ q) H) (hS : va_S (fun q : Nat => s.heap.size ≤ q) s.heap H locs) (hl : lv_has ls 4 [(0, .ref b), (1, .ref x), (2, .ref y), (3, .int k0)]) (hc1 : cells + 62 ≤ 600000) (hc2 : slots + 8804 ≤ 7302250)
    (kk : ∀ (F1 : kF) (M1 : k_M) (H1 : Heap) (locs1 : List Loc), okF F1 → lI G M1 x y F1 F1 → kR G M1 (fun q : Nat => s.heap.size ≤ q) H1 → va_S (fun q : Nat => s.heap.size ≤ q) s.heap H1 locs1 → W p l e room_1 s m #[Value.ref b] below meth c H1 locs1 (cells + 62) (slots + 8804) Q (F0 m 866 ls [])) :
    W p l e room_1 s m #[Value.ref b] below meth c H locs cells slots Q (F0 m 820 ls []) := by
  obtain ⟨hx, hb, hr, hml, hown0, hts0, hX, hbl, hlocks, hgv⟩ := id C0
  have hts := lw_hts hts0
  have hA : ∀ q : Nat, s.heap.size ≤ q → (fun q : Nat => s.heap.size ≤ q) q := fun _ h => h
  have hbA : ¬ (fun q : Nat => s.heap.size ≤ q) b := Nat.not_le.mpr hbl
  have hown : s.vm.findClass RL = some m.cls := hown0
  have hz1 : cells + 0 ≤ room_1.cells := by show cells + 0 ≤ 600000; omega
  have hz2 : slots + 0 ≤ room_1.slots := by show slots + 0 ≤ 7302250; omega
  have hz3 : cells + 62 ≤ room_1.cells := hc1
  have hz4 : slots + 8804 ≤ room_1.slots := hc2
  have hz5 : cells + 62 + 0 ≤ room_1.cells := hc1
  have hz6 : slots + 8804 + 0 ≤ room_1.slots := hc2
  refine lv_aload_n hx hb dL_law_820 rfl (lv_at hl 1 rfl) ?_
  refine lv_aload_n hx hb dL_law_821 rfl (lv_at hl 0 rfl) ?_
  refine lv_iload_n hx hb dL_law_822 rfl (lv_at hl 3 rfl) ?_
  refine lv_iconst (v := (1 : Int32)) hx hb dL_law_823 (by decide) ?_
  refine lv_iadd hx hb dL_law_824 ?_
  refine va_sld hx hb hX hbl hbA hS h1 dL_law_825 ?_
  obtain ⟨fs0, hm0⟩ := hI.cx
  refine k_calli0 (va_runV (As := [.int (xs (k0 + (1 : Int32)).toNatClampNeg)]) (rest := []) ⟨hx, hb, hml, hown, hts⟩ (c_X3_save l G _ _ _ x (xs (k0 + (1 : Int32)).toNatClampNeg) (l_save hok hI)) (cwV 1 hts gL_law_X3_save rfl rfl rfl (by decide +kernel) ⟨Nat.le_of_ble_eq_true rfl, Nat.le_of_ble_eq_true rfl⟩) (k_preV (q := (RX3, TX3, 8)) hm0 rfl hR hS hA hE) rfl rfl hl.1 rfl (lv_room (Nat.le_of_ble_eq_true rfl)) dL_law_826 ⟨hz1, hz2⟩) hR hS hA (fun v1 M0 H0 locs0 hv hR hS => ?_)
  obtain ⟨e1, hI⟩ := hv
  refine lv_aload_n hx hb dL_law_829 rfl (lv_at hl 2 rfl) ?_
  refine lv_aload_n hx hb dL_law_830 rfl (lv_at hl 0 rfl) ?_
  refine lv_iload_n hx hb dL_law_831 rfl (lv_at hl 3 rfl) ?_
  refine lv_iconst (v := (1 : Int32)) hx hb dL_law_832 (by decide) ?_
  refine lv_iadd hx hb dL_law_833 ?_
  refine va_sld hx hb hX hbl hbA hS h1 dL_law_834 ?_
  obtain ⟨fs1, hm1⟩ := hI.cy
  refine k_calli0 (va_runV (As := [.int (xs (k0 + (1 : Int32)).toNatClampNeg)]) (rest := [.int v1]) ⟨hx, hb, hml, hown, hts⟩ (c_X4_save l G _ _ _ y (xs (k0 + (1 : Int32)).toNatClampNeg) (r_save hok hI)) (cwV 1 hts gL_law_X4_save rfl rfl rfl (by decide +kernel) ⟨Nat.le_of_ble_eq_true rfl, Nat.le_of_ble_eq_true rfl⟩) (k_preV (q := (RX4, TX4, 13)) hm1 rfl hR hS hA hE) rfl rfl hl.1 rfl (lv_room (Nat.le_of_ble_eq_true rfl)) dL_law_835 ⟨hz1, hz2⟩) hR hS hA (fun v2 M1 H1 locs1 hv hR hS => ?_)
  obtain ⟨e2, hI⟩ := hv
  refine lv_icmp_eq (tgt := 866) hx hb dL_law_838 (by decide) (fun _ => ?_) (fun z => absurd (e1.trans e2.symm) z)
  refine W.widen (k := cells + 62) (n := slots + 8804) (Nat.le_add_right _ _) (Nat.le_add_right _ _) ?_
  exact kk _ _ _ _ (ok_save hok _) hI hR hS
set_option maxHeartbeats 4000000 in
set_option maxRecDepth 100000 in
theorem lc_restore {p : Program} {l : Launch} {e : Env} {s : State} {m : MethodId} {below : List Frame} {meth : Method} {c : Code} {b L : Nat} {xs : Nat → Int32} {G : k_G} {Q : State → Prop} (C0 : lw_At p s m meth c b L xs) (hE : kE G (fun q : Nat => s.heap.size ≤ q) s)
    {x y : Nat} {F : kF} {M : k_M} {H : Heap} {locs : List Loc} {k0 : Int32} {ls : Array Slot} {cells slots : Nat} (h1 : vp_in (k0 + (1 : Int32)) L) (h2 : vp_in (k0 + (2 : Int32)) L) (h3 : vp_in (k0 + (3 : Int32)) L) (h4 : vp_in (k0 + (4 : Int32)) L)
    (hok : okF F) (hI : lI G M x y F F) (hR : kR G M (fun q : Nat => s.heap.size ≤ q) H) (hS : va_S (fun q : Nat => s.heap.size ≤ q) s.heap H locs) (hl : lv_has ls 4 [(0, .ref b), (1, .ref x), (2, .ref y), (3, .int k0)]) (hc1 : cells + 62 ≤ 600000) (hc2 : slots + 8804 ≤ 7302250)
    (kk : ∀ (F1 : kF) (M1 : k_M) (H1 : Heap) (locs1 : List Loc), okF F1 → lI G M1 x y F1 F1 → kR G M1 (fun q : Nat => s.heap.size ≤ q) H1 → va_S (fun q : Nat => s.heap.size ≤ q) s.heap H1 locs1 → W p l e room_1 s m #[Value.ref b] below meth c H1 locs1 (cells + 62) (slots + 8804) Q (F0 m 866 ls [])) :
    W p l e room_1 s m #[Value.ref b] below meth c H locs cells slots Q (F0 m 843 ls []) := by
  obtain ⟨hx, hb, hr, hml, hown0, hts0, hX, hbl, hlocks, hgv⟩ := id C0
  have hts := lw_hts hts0
  have hA : ∀ q : Nat, s.heap.size ≤ q → (fun q : Nat => s.heap.size ≤ q) q := fun _ h => h
  have hbA : ¬ (fun q : Nat => s.heap.size ≤ q) b := Nat.not_le.mpr hbl
  have hown : s.vm.findClass RL = some m.cls := hown0
  have hz1 : cells + 0 ≤ room_1.cells := by show cells + 0 ≤ 600000; omega
  have hz2 : slots + 0 ≤ room_1.slots := by show slots + 0 ≤ 7302250; omega
  have hz3 : cells + 62 ≤ room_1.cells := hc1
  have hz4 : slots + 8804 ≤ room_1.slots := hc2
  have hz5 : cells + 62 + 0 ≤ room_1.cells := hc1
  have hz6 : slots + 8804 + 0 ≤ room_1.slots := hc2
  refine lv_aload_n hx hb dL_law_843 rfl (lv_at hl 1 rfl) ?_
  refine lv_aload_n hx hb dL_law_844 rfl (lv_at hl 0 rfl) ?_
  refine lv_iload_n hx hb dL_law_845 rfl (lv_at hl 3 rfl) ?_
  refine lv_iconst (v := (1 : Int32)) hx hb dL_law_846 (by decide) ?_
  refine lv_iadd hx hb dL_law_847 ?_
  refine va_sld hx hb hX hbl hbA hS h1 dL_law_848 ?_
  obtain ⟨fs0, hm0⟩ := hI.cx
  refine k_calli0 (va_runV (As := [.int (xs (k0 + (1 : Int32)).toNatClampNeg)]) (rest := []) ⟨hx, hb, hml, hown, hts⟩ (c_X3_restore l G _ _ _ x (xs (k0 + (1 : Int32)).toNatClampNeg) (l_restore hok hI)) (cwV 1 hts gL_law_X3_restore rfl rfl rfl (by decide +kernel) ⟨Nat.le_of_ble_eq_true rfl, Nat.le_of_ble_eq_true rfl⟩) (k_preV (q := (RX3, TX3, 8)) hm0 rfl hR hS hA hE) rfl rfl hl.1 rfl (lv_room (Nat.le_of_ble_eq_true rfl)) dL_law_849 ⟨hz1, hz2⟩) hR hS hA (fun v1 M0 H0 locs0 hv hR hS => ?_)
  obtain ⟨e1, hI⟩ := hv
  refine lv_aload_n hx hb dL_law_852 rfl (lv_at hl 2 rfl) ?_
  refine lv_aload_n hx hb dL_law_853 rfl (lv_at hl 0 rfl) ?_
  refine lv_iload_n hx hb dL_law_854 rfl (lv_at hl 3 rfl) ?_
  refine lv_iconst (v := (1 : Int32)) hx hb dL_law_855 (by decide) ?_
  refine lv_iadd hx hb dL_law_856 ?_
  refine va_sld hx hb hX hbl hbA hS h1 dL_law_857 ?_
  obtain ⟨fs1, hm1⟩ := hI.cy
  refine k_calli0 (va_runV (As := [.int (xs (k0 + (1 : Int32)).toNatClampNeg)]) (rest := [.int v1]) ⟨hx, hb, hml, hown, hts⟩ (c_X4_restore l G _ _ _ y (xs (k0 + (1 : Int32)).toNatClampNeg) (r_restore hok hI)) (cwV 1 hts gL_law_X4_restore rfl rfl rfl (by decide +kernel) ⟨Nat.le_of_ble_eq_true rfl, Nat.le_of_ble_eq_true rfl⟩) (k_preV (q := (RX4, TX4, 13)) hm1 rfl hR hS hA hE) rfl rfl hl.1 rfl (lv_room (Nat.le_of_ble_eq_true rfl)) dL_law_858 ⟨hz1, hz2⟩) hR hS hA (fun v2 M1 H1 locs1 hv hR hS => ?_)
  obtain ⟨e2, hI⟩ := hv
  refine lv_icmp_eq (tgt := 866) hx hb dL_law_861 (by decide) (fun _ => ?_) (fun z => absurd (e1.trans e2.symm) z)
  refine W.widen (k := cells + 62) (n := slots + 8804) (Nat.le_add_right _ _) (Nat.le_add_right _ _) ?_
  exact kk _ _ _ _ (ok_restore hok _) hI hR hS
