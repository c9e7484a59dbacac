/-! ===== the law: its calls, 3 ===== -/
set_option maxHeartbeats 4000000 in
set_option maxRecDepth 100000 in
theorem lc_order {p : Program} {l : Launch} {e : Env} {s : State} {m : MethodId} {below : List Frame} {meth : Method} {c : Code} {b L : Nat} {xs : Nat → Int32} {G : k_G} {Q : State → Prop} (C0 : lw_At p s m meth c b L xs) (hE : kE G (fun q : Nat => s.heap.size ≤ q) s)
    {x y : Nat} {F : kF} {M : k_M} {H : Heap} {locs : List Loc} {k0 : Int32} {ls : Array Slot} {cells slots : Nat} (h1 : vp_in (k0 + (1 : Int32)) L) (h2 : vp_in (k0 + (2 : Int32)) L) (h3 : vp_in (k0 + (3 : Int32)) L) (h4 : vp_in (k0 + (4 : Int32)) L)
    (hok : okF F) (hI : lI G M x y F F) (hR : kR G M (fun q : Nat => s.heap.size ≤ q) H) (hS : va_S (fun q : Nat => s.heap.size ≤ q) s.heap H locs) (hl : lv_has ls 4 [(0, .ref b), (1, .ref x), (2, .ref y), (3, .int k0)]) (hc1 : cells + 62 ≤ 600000) (hc2 : slots + 8804 ≤ 7302250)
    (kk : ∀ (F1 : kF) (M1 : k_M) (H1 : Heap) (locs1 : List Loc), okF F1 → lI G M1 x y F1 F1 → kR G M1 (fun q : Nat => s.heap.size ≤ q) H1 → va_S (fun q : Nat => s.heap.size ≤ q) s.heap H1 locs1 → W p l e room_1 s m #[Value.ref b] below meth c H1 locs1 (cells + 62) (slots + 8804) Q (F0 m 866 ls [])) :
    W p l e room_1 s m #[Value.ref b] below meth c H locs cells slots Q (F0 m 500 ls []) := by
  obtain ⟨hx, hb, hr, hml, hown0, hts0, hX, hbl, hlocks, hgv⟩ := id C0
  have hts := lw_hts hts0
  have hA : ∀ q : Nat, s.heap.size ≤ q → (fun q : Nat => s.heap.size ≤ q) q := fun _ h => h
  have hbA : ¬ (fun q : Nat => s.heap.size ≤ q) b := Nat.not_le.mpr hbl
  have hown : s.vm.findClass RL = some m.cls := hown0
  have hz1 : cells + 0 ≤ room_1.cells := by show cells + 0 ≤ 600000; omega
  have hz2 : slots + 0 ≤ room_1.slots := by show slots + 0 ≤ 7302250; omega
  have hz3 : cells + 62 ≤ room_1.cells := hc1
  have hz4 : slots + 8804 ≤ room_1.slots := hc2
  have hz5 : cells + 62 + 0 ≤ room_1.cells := hc1
  have hz6 : slots + 8804 + 0 ≤ room_1.slots := hc2
  refine lv_aload_n hx hb dL_law_500 rfl (lv_at hl 1 rfl) ?_
  refine lv_aload_n hx hb dL_law_501 rfl (lv_at hl 0 rfl) ?_
  refine lv_iload_n hx hb dL_law_502 rfl (lv_at hl 3 rfl) ?_
  refine lv_iconst (v := (1 : Int32)) hx hb dL_law_503 (by decide) ?_
  refine lv_iadd hx hb dL_law_504 ?_
  refine va_sld hx hb hX hbl hbA hS h1 dL_law_505 ?_
  refine lv_aload_n hx hb dL_law_506 rfl (lv_at hl 0 rfl) ?_
  refine lv_iload_n hx hb dL_law_507 rfl (lv_at hl 3 rfl) ?_
  refine lv_iconst (v := (2 : Int32)) hx hb dL_law_508 (by decide) ?_
  refine lv_iadd hx hb dL_law_509 ?_
  refine va_sld hx hb hX hbl hbA hS h2 dL_law_510 ?_
  refine lv_aload_n hx hb dL_law_511 rfl (lv_at hl 0 rfl) ?_
  refine lv_iload_n hx hb dL_law_512 rfl (lv_at hl 3 rfl) ?_
  refine lv_iconst (v := (3 : Int32)) hx hb dL_law_513 (by decide) ?_
  refine lv_iadd hx hb dL_law_514 ?_
  refine va_sld hx hb hX hbl hbA hS h3 dL_law_515 ?_
  refine lv_aload_n hx hb dL_law_516 rfl (lv_at hl 0 rfl) ?_
  refine lv_iload_n hx hb dL_law_517 rfl (lv_at hl 3 rfl) ?_
  refine lv_iconst (v := (4 : Int32)) hx hb dL_law_518 (by decide) ?_
  refine lv_iadd hx hb dL_law_519 ?_
  refine va_sld hx hb hX hbl hbA hS h4 dL_law_520 ?_
  obtain ⟨fs0, hm0⟩ := hI.cx
  refine k_calli0 (va_runV (As := [.int (xs (k0 + (1 : Int32)).toNatClampNeg), .int (xs (k0 + (2 : Int32)).toNatClampNeg), .int (xs (k0 + (3 : Int32)).toNatClampNeg), .int (xs (k0 + (4 : Int32)).toNatClampNeg)]) (rest := []) ⟨hx, hb, hml, hown, hts⟩ (c_X3_order l G _ _ _ x (xs (k0 + (1 : Int32)).toNatClampNeg) (xs (k0 + (2 : Int32)).toNatClampNeg) (xs (k0 + (3 : Int32)).toNatClampNeg) (xs (k0 + (4 : Int32)).toNatClampNeg) (l_order hok hI)) (cwV 4 hts gL_law_X3_order rfl rfl rfl (by decide +kernel) ⟨Nat.le_of_ble_eq_true rfl, Nat.le_of_ble_eq_true rfl⟩) (k_preV (q := (RX3, TX3, 8)) hm0 rfl hR hS hA hE) rfl rfl hl.1 rfl (lv_room (Nat.le_of_ble_eq_true rfl)) dL_law_521 ⟨hz1, hz2⟩) hR hS hA (fun v1 M0 H0 locs0 hv hR hS => ?_)
  obtain ⟨e1, hI⟩ := hv
  refine lv_aload_n hx hb dL_law_524 rfl (lv_at hl 2 rfl) ?_
  refine lv_aload_n hx hb dL_law_525 rfl (lv_at hl 0 rfl) ?_
  refine lv_iload_n hx hb dL_law_526 rfl (lv_at hl 3 rfl) ?_
  refine lv_iconst (v := (1 : Int32)) hx hb dL_law_527 (by decide) ?_
  refine lv_iadd hx hb dL_law_528 ?_
  refine va_sld hx hb hX hbl hbA hS h1 dL_law_529 ?_
  refine lv_aload_n hx hb dL_law_530 rfl (lv_at hl 0 rfl) ?_
  refine lv_iload_n hx hb dL_law_531 rfl (lv_at hl 3 rfl) ?_
  refine lv_iconst (v := (2 : Int32)) hx hb dL_law_532 (by decide) ?_
  refine lv_iadd hx hb dL_law_533 ?_
  refine va_sld hx hb hX hbl hbA hS h2 dL_law_534 ?_
  refine lv_aload_n hx hb dL_law_535 rfl (lv_at hl 0 rfl) ?_
  refine lv_iload_n hx hb dL_law_536 rfl (lv_at hl 3 rfl) ?_
  refine lv_iconst (v := (3 : Int32)) hx hb dL_law_537 (by decide) ?_
  refine lv_iadd hx hb dL_law_538 ?_
  refine va_sld hx hb hX hbl hbA hS h3 dL_law_539 ?_
  refine lv_aload_n hx hb dL_law_540 rfl (lv_at hl 0 rfl) ?_
  refine lv_iload_n hx hb dL_law_541 rfl (lv_at hl 3 rfl) ?_
  refine lv_iconst (v := (4 : Int32)) hx hb dL_law_542 (by decide) ?_
  refine lv_iadd hx hb dL_law_543 ?_
  refine va_sld hx hb hX hbl hbA hS h4 dL_law_544 ?_
  obtain ⟨fs1, hm1⟩ := hI.cy
  refine k_calli0 (va_runV (As := [.int (xs (k0 + (1 : Int32)).toNatClampNeg), .int (xs (k0 + (2 : Int32)).toNatClampNeg), .int (xs (k0 + (3 : Int32)).toNatClampNeg), .int (xs (k0 + (4 : Int32)).toNatClampNeg)]) (rest := [.int v1]) ⟨hx, hb, hml, hown, hts⟩ (c_X4_order l G _ _ _ y (xs (k0 + (1 : Int32)).toNatClampNeg) (xs (k0 + (2 : Int32)).toNatClampNeg) (xs (k0 + (3 : Int32)).toNatClampNeg) (xs (k0 + (4 : Int32)).toNatClampNeg) (r_order hok hI)) (cwV 4 hts gL_law_X4_order rfl rfl rfl (by decide +kernel) ⟨Nat.le_of_ble_eq_true rfl, Nat.le_of_ble_eq_true rfl⟩) (k_preV (q := (RX4, TX4, 13)) hm1 rfl hR hS hA hE) rfl rfl hl.1 rfl (lv_room (Nat.le_of_ble_eq_true rfl)) dL_law_545 ⟨hz1, hz2⟩) hR hS hA (fun v2 M1 H1 locs1 hv hR hS => ?_)
  obtain ⟨e2, hI⟩ := hv
  refine lv_icmp_eq (tgt := 866) hx hb dL_law_548 (by decide) (fun _ => ?_) (fun z => absurd (e1.trans e2.symm) z)
  refine W.widen (k := cells + 62) (n := slots + 8804) (Nat.le_add_right _ _) (Nat.le_add_right _ _) ?_
  exact kk _ _ _ _ hok hI hR hS
set_option maxHeartbeats 4000000 in
set_option maxRecDepth 100000 in
theorem lc_more {p : Program} {l : Launch} {e : Env} {s : State} {m : MethodId} {below : List Frame} {meth : Method} {c : Code} {b L : Nat} {xs : Nat → Int32} {G : k_G} {Q : State → Prop} (C0 : lw_At p s m meth c b L xs) (hE : kE G (fun q : Nat => s.heap.size ≤ q) s)
    {x y : Nat} {F : kF} {M : k_M} {H : Heap} {locs : List Loc} {k0 : Int32} {ls : Array Slot} {cells slots : Nat} (h1 : vp_in (k0 + (1 : Int32)) L) (h2 : vp_in (k0 + (2 : Int32)) L) (h3 : vp_in (k0 + (3 : Int32)) L) (h4 : vp_in (k0 + (4 : Int32)) L)
    (hok : okF F) (hI : lI G M x y F F) (hR : kR G M (fun q : Nat => s.heap.size ≤ q) H) (hS : va_S (fun q : Nat => s.heap.size ≤ q) s.heap H locs) (hl : lv_has ls 4 [(0, .ref b), (1, .ref x), (2, .ref y), (3, .int k0)]) (hc1 : cells + 62 ≤ 600000) (hc2 : slots + 8804 ≤ 7302250)
    (kk : ∀ (F1 : kF) (M1 : k_M) (H1 : Heap) (locs1 : List Loc), okF F1 → lI G M1 x y F1 F1 → kR G M1 (fun q : Nat => s.heap.size ≤ q) H1 → va_S (fun q : Nat => s.heap.size ≤ q) s.heap H1 locs1 → W p l e room_1 s m #[Value.ref b] below meth c H1 locs1 (cells + 62) (slots + 8804) Q (F0 m 866 ls [])) :
    W p l e room_1 s m #[Value.ref b] below meth c H locs cells slots Q (F0 m 553 ls []) := by
  obtain ⟨hx, hb, hr, hml, hown0, hts0, hX, hbl, hlocks, hgv⟩ := id C0
  have hts := lw_hts hts0
  have hA : ∀ q : Nat, s.heap.size ≤ q → (fun q : Nat => s.heap.size ≤ q) q := fun _ h => h
  have hbA : ¬ (fun q : Nat => s.heap.size ≤ q) b := Nat.not_le.mpr hbl
  have hown : s.vm.findClass RL = some m.cls := hown0
  have hz1 : cells + 0 ≤ room_1.cells := by show cells + 0 ≤ 600000; omega
  have hz2 : slots + 0 ≤ room_1.slots := by show slots + 0 ≤ 7302250; omega
  have hz3 : cells + 62 ≤ room_1.cells := hc1
  have hz4 : slots + 8804 ≤ room_1.slots := hc2
  have hz5 : cells + 62 + 0 ≤ room_1.cells := hc1
  have hz6 : slots + 8804 + 0 ≤ room_1.slots := hc2
  refine lv_aload_n hx hb dL_law_553 rfl (lv_at hl 1 rfl) ?_
  refine lv_aload_n hx hb dL_law_554 rfl (lv_at hl 0 rfl) ?_
  refine lv_iload_n hx hb dL_law_555 rfl (lv_at hl 3 rfl) ?_
  refine lv_iconst (v := (1 : Int32)) hx hb dL_law_556 (by decide) ?_
  refine lv_iadd hx hb dL_law_557 ?_
  refine va_sld hx hb hX hbl hbA hS h1 dL_law_558 ?_
  refine lv_aload_n hx hb dL_law_559 rfl (lv_at hl 0 rfl) ?_
  refine lv_iload_n hx hb dL_law_560 rfl (lv_at hl 3 rfl) ?_
  refine lv_iconst (v := (2 : Int32)) hx hb dL_law_561 (by decide) ?_
  refine lv_iadd hx hb dL_law_562 ?_
  refine va_sld hx hb hX hbl hbA hS h2 dL_law_563 ?_
  refine lv_aload_n hx hb dL_law_564 rfl (lv_at hl 0 rfl) ?_
  refine lv_iload_n hx hb dL_law_565 rfl (lv_at hl 3 rfl) ?_
  refine lv_iconst (v := (3 : Int32)) hx hb dL_law_566 (by decide) ?_
  refine lv_iadd hx hb dL_law_567 ?_
  refine va_sld hx hb hX hbl hbA hS h3 dL_law_568 ?_
  refine lv_aload_n hx hb dL_law_569 rfl (lv_at hl 0 rfl) ?_
  refine lv_iload_n hx hb dL_law_570 rfl (lv_at hl 3 rfl) ?_
  refine lv_iconst (v := (4 : Int32)) hx hb dL_law_571 (by decide) ?_
  refine lv_iadd hx hb dL_law_572 ?_
  refine va_sld hx hb hX hbl hbA hS h4 dL_law_573 ?_
  obtain ⟨fs0, hm0⟩ := hI.cx
  refine k_calli0 (va_runV (As := [.int (xs (k0 + (1 : Int32)).toNatClampNeg), .int (xs (k0 + (2 : Int32)).toNatClampNeg), .int (xs (k0 + (3 : Int32)).toNatClampNeg), .int (xs (k0 + (4 : Int32)).toNatClampNeg)]) (rest := []) ⟨hx, hb, hml, hown, hts⟩ (c_X3_more l G _ _ _ x (xs (k0 + (1 : Int32)).toNatClampNeg) (xs (k0 + (2 : Int32)).toNatClampNeg) (xs (k0 + (3 : Int32)).toNatClampNeg) (xs (k0 + (4 : Int32)).toNatClampNeg) (l_more hok hI)) (cwV 4 hts gL_law_X3_more rfl rfl rfl (by decide +kernel) ⟨Nat.le_of_ble_eq_true rfl, Nat.le_of_ble_eq_true rfl⟩) (k_preV (q := (RX3, TX3, 8)) hm0 rfl hR hS hA hE) rfl rfl hl.1 rfl (lv_room (Nat.le_of_ble_eq_true rfl)) dL_law_574 ⟨hz1, hz2⟩) hR hS hA (fun v1 M0 H0 locs0 hv hR hS => ?_)
  obtain ⟨e1, hI⟩ := hv
  refine lv_aload_n hx hb dL_law_577 rfl (lv_at hl 2 rfl) ?_
  refine lv_aload_n hx hb dL_law_578 rfl (lv_at hl 0 rfl) ?_
  refine lv_iload_n hx hb dL_law_579 rfl (lv_at hl 3 rfl) ?_
  refine lv_iconst (v := (1 : Int32)) hx hb dL_law_580 (by decide) ?_
  refine lv_iadd hx hb dL_law_581 ?_
  refine va_sld hx hb hX hbl hbA hS h1 dL_law_582 ?_
  refine lv_aload_n hx hb dL_law_583 rfl (lv_at hl 0 rfl) ?_
  refine lv_iload_n hx hb dL_law_584 rfl (lv_at hl 3 rfl) ?_
  refine lv_iconst (v := (2 : Int32)) hx hb dL_law_585 (by decide) ?_
  refine lv_iadd hx hb dL_law_586 ?_
  refine va_sld hx hb hX hbl hbA hS h2 dL_law_587 ?_
  refine lv_aload_n hx hb dL_law_588 rfl (lv_at hl 0 rfl) ?_
  refine lv_iload_n hx hb dL_law_589 rfl (lv_at hl 3 rfl) ?_
  refine lv_iconst (v := (3 : Int32)) hx hb dL_law_590 (by decide) ?_
  refine lv_iadd hx hb dL_law_591 ?_
  refine va_sld hx hb hX hbl hbA hS h3 dL_law_592 ?_
  refine lv_aload_n hx hb dL_law_593 rfl (lv_at hl 0 rfl) ?_
  refine lv_iload_n hx hb dL_law_594 rfl (lv_at hl 3 rfl) ?_
  refine lv_iconst (v := (4 : Int32)) hx hb dL_law_595 (by decide) ?_
  refine lv_iadd hx hb dL_law_596 ?_
  refine va_sld hx hb hX hbl hbA hS h4 dL_law_597 ?_
  obtain ⟨fs1, hm1⟩ := hI.cy
  refine k_calli0 (va_runV (As := [.int (xs (k0 + (1 : Int32)).toNatClampNeg), .int (xs (k0 + (2 : Int32)).toNatClampNeg), .int (xs (k0 + (3 : Int32)).toNatClampNeg), .int (xs (k0 + (4 : Int32)).toNatClampNeg)]) (rest := [.int v1]) ⟨hx, hb, hml, hown, hts⟩ (c_X4_more l G _ _ _ y (xs (k0 + (1 : Int32)).toNatClampNeg) (xs (k0 + (2 : Int32)).toNatClampNeg) (xs (k0 + (3 : Int32)).toNatClampNeg) (xs (k0 + (4 : Int32)).toNatClampNeg) (r_more hok hI)) (cwV 4 hts gL_law_X4_more rfl rfl rfl (by decide +kernel) ⟨Nat.le_of_ble_eq_true rfl, Nat.le_of_ble_eq_true rfl⟩) (k_preV (q := (RX4, TX4, 13)) hm1 rfl hR hS hA hE) rfl rfl hl.1 rfl (lv_room (Nat.le_of_ble_eq_true rfl)) dL_law_598 ⟨hz1, hz2⟩) hR hS hA (fun v2 M1 H1 locs1 hv hR hS => ?_)
  obtain ⟨e2, hI⟩ := hv
  refine lv_icmp_eq (tgt := 866) hx hb dL_law_601 (by decide) (fun _ => ?_) (fun z => absurd (e1.trans e2.symm) z)
  refine W.widen (k := cells + 62) (n := slots + 8804) (Nat.le_add_right _ _) (Nat.le_add_right _ _) ?_
  exact kk _ _ _ _ hok hI hR hS
set_option maxHeartbeats 4000000 in
set_option maxRecDepth 100000 in
theorem lc_orderToPad {p : Program} {l : Launch} {e : Env} {s : State} {m : MethodId} {below : List Frame} {meth : Method} {c : Code} {b L : Nat} {xs : Nat → Int32} {G : k_G} {Q : State → Prop} (C0 : lw_At p s m meth c b L xs) (hE : kE G (fun q : Nat => s.heap.size ≤ q) s)
    {x y : Nat} {F : kF} {M : k_M} {H : Heap} {locs : List Loc} {k0 : Int32} {ls : Array Slot} {cells slots : Nat} (h1 : vp_in (k0 + (1 : Int32)) L) (h2 : vp_in (k0 + (2 : Int32)) L) (h3 : vp_in (k0 + (3 : Int32)) L) (h4 : vp_in (k0 + (4 : Int32)) L)
    (hok : okF F) (hI : lI G M x y F F) (hR : kR G M (fun q : Nat => s.heap.size ≤ q) H) (hS : va_S (fun q : Nat => s.heap.size ≤ q) s.heap H locs) (hl : lv_has ls 4 [(0, .ref b), (1, .ref x), (2, .ref y), (3, .int k0)]) (hc1 : cells + 62 ≤ 600000) (hc2 : slots + 8804 ≤ 7302250)
    (kk : ∀ (F1 : kF) (M1 : k_M) (H1 : Heap) (locs1 : List Loc), okF F1 → lI G M1 x y F1 F1 → kR G M1 (fun q : Nat => s.heap.size ≤ q) H1 → va_S (fun q : Nat => s.heap.size ≤ q) s.heap H1 locs1 → W p l e room_1 s m #[Value.ref b] below meth c H1 locs1 (cells + 62) (slots + 8804) Q (F0 m 866 ls [])) :
    W p l e room_1 s m #[Value.ref b] below meth c H locs cells slots Q (F0 m 606 ls []) := by
  obtain ⟨hx, hb, hr, hml, hown0, hts0, hX, hbl, hlocks, hgv⟩ := id C0
  have hts := lw_hts hts0
  have hA : ∀ q : Nat, s.heap.size ≤ q → (fun q : Nat => s.heap.size ≤ q) q := fun _ h => h
  have hbA : ¬ (fun q : Nat => s.heap.size ≤ q) b := Nat.not_le.mpr hbl
  have hown : s.vm.findClass RL = some m.cls := hown0
  have hz1 : cells + 0 ≤ room_1.cells := by show cells + 0 ≤ 600000; omega
  have hz2 : slots + 0 ≤ room_1.slots := by show slots + 0 ≤ 7302250; omega
  have hz3 : cells + 62 ≤ room_1.cells := hc1
  have hz4 : slots + 8804 ≤ room_1.slots := hc2
  have hz5 : cells + 62 + 0 ≤ room_1.cells := hc1
  have hz6 : slots + 8804 + 0 ≤ room_1.slots := hc2
  refine lv_aload_n hx hb dL_law_606 rfl (lv_at hl 1 rfl) ?_
  refine lv_aload_n hx hb dL_law_607 rfl (lv_at hl 0 rfl) ?_
  refine lv_iload_n hx hb dL_law_608 rfl (lv_at hl 3 rfl) ?_
  refine lv_iconst (v := (1 : Int32)) hx hb dL_law_609 (by decide) ?_
  refine lv_iadd hx hb dL_law_610 ?_
  refine va_sld hx hb hX hbl hbA hS h1 dL_law_611 ?_
  obtain ⟨fs0, hm0⟩ := hI.cx
  refine k_calli0 (va_runV (As := [.int (xs (k0 + (1 : Int32)).toNatClampNeg)]) (rest := []) ⟨hx, hb, hml, hown, hts⟩ (c_X3_orderToPad l G _ _ _ x (xs (k0 + (1 : Int32)).toNatClampNeg) (l_orderToPad hok hI)) (cwV 1 hts gL_law_X3_orderToPad rfl rfl rfl (by decide +kernel) ⟨Nat.le_of_ble_eq_true rfl, Nat.le_of_ble_eq_true rfl⟩) (k_preV (q := (RX3, TX3, 8)) hm0 rfl hR hS hA hE) rfl rfl hl.1 rfl (lv_room (Nat.le_of_ble_eq_true rfl)) dL_law_612 ⟨hz1, hz2⟩) hR hS hA (fun v1 M0 H0 locs0 hv hR hS => ?_)
  obtain ⟨e1, hI⟩ := hv
  refine lv_aload_n hx hb dL_law_615 rfl (lv_at hl 2 rfl) ?_
  refine lv_aload_n hx hb dL_law_616 rfl (lv_at hl 0 rfl) ?_
  refine lv_iload_n hx hb dL_law_617 rfl (lv_at hl 3 rfl) ?_
  refine lv_iconst (v := (1 : Int32)) hx hb dL_law_618 (by decide) ?_
  refine lv_iadd hx hb dL_law_619 ?_
  refine va_sld hx hb hX hbl hbA hS h1 dL_law_620 ?_
  obtain ⟨fs1, hm1⟩ := hI.cy
  refine k_calli0 (va_runV (As := [.int (xs (k0 + (1 : Int32)).toNatClampNeg)]) (rest := [.int v1]) ⟨hx, hb, hml, hown, hts⟩ (c_X4_orderToPad l G _ _ _ y (xs (k0 + (1 : Int32)).toNatClampNeg) (r_orderToPad hok hI)) (cwV 1 hts gL_law_X4_orderToPad rfl rfl rfl (by decide +kernel) ⟨Nat.le_of_ble_eq_true rfl, Nat.le_of_ble_eq_true rfl⟩) (k_preV (q := (RX4, TX4, 13)) hm1 rfl hR hS hA hE) rfl rfl hl.1 rfl (lv_room (Nat.le_of_ble_eq_true rfl)) dL_law_621 ⟨hz1, hz2⟩) hR hS hA (fun v2 M1 H1 locs1 hv hR hS => ?_)
  obtain ⟨e2, hI⟩ := hv
  refine lv_icmp_eq (tgt := 866) hx hb dL_law_624 (by decide) (fun _ => ?_) (fun z => absurd (e1.trans e2.symm) z)
  refine W.widen (k := cells + 62) (n := slots + 8804) (Nat.le_add_right _ _) (Nat.le_add_right _ _) ?_
  exact kk _ _ _ _ hok hI hR hS
set_option maxHeartbeats 4000000 in
set_option maxRecDepth 100000 in
theorem lc_printed {p : Program} {l : Launch} {e : Env} {s : State} {m : MethodId} {below : List Frame} {meth : Method} {c : Code} {b L : Nat} {xs : Nat → Int32} {G : k_G} {Q : State → Prop} (C0 : lw_At p s m meth c b L xs) (hE : kE G (fun q : Nat => s.heap.size ≤ q) s)
    {x y : Nat} {F : kF} {M : k_M} {H : Heap} {locs : List Loc} {k0 : Int32} {ls : Array Slot} {cells slots : Nat} (h1 : vp_in (k0 + (1 : Int32)) L) (h2 : vp_in (k0 + (2 : Int32)) L) (h3 : vp_in (k0 + (3 : Int32)) L) (h4 : vp_in (k0 + (4 : Int32)) L)
    (hok : okF F) (hI : lI G M x y F F) (hR : kR G M (fun q : Nat => s.heap.size ≤ q) H) (hS : va_S (fun q : Nat => s.heap.size ≤ q) s.heap H locs) (hl : lv_has ls 4 [(0, .ref b), (1, .ref x), (2, .ref y), (3, .int k0)]) (hc1 : cells + 62 ≤ 600000) (hc2 : slots + 8804 ≤ 7302250)
    (kk : ∀ (F1 : kF) (M1 : k_M) (H1 : Heap) (locs1 : List Loc), okF F1 → lI G M1 x y F1 F1 → kR G M1 (fun q : Nat => s.heap.size ≤ q) H1 → va_S (fun q : Nat => s.heap.size ≤ q) s.heap H1 locs1 → W p l e room_1 s m #[Value.ref b] below meth c H1 locs1 (cells + 62) (slots + 8804) Q (F0 m 866 ls [])) :
    W p l e room_1 s m #[Value.ref b] below meth c H locs cells slots Q (F0 m 629 ls []) := by
  obtain ⟨hx, hb, hr, hml, hown0, hts0, hX, hbl, hlocks, hgv⟩ := id C0
  have hts := lw_hts hts0
  have hA : ∀ q : Nat, s.heap.size ≤ q → (fun q : Nat => s.heap.size ≤ q) q := fun _ h => h
  have hbA : ¬ (fun q : Nat => s.heap.size ≤ q) b := Nat.not_le.mpr hbl
  have hown : s.vm.findClass RL = some m.cls := hown0
  have hz1 : cells + 0 ≤ room_1.cells := by show cells + 0 ≤ 600000; omega
  have hz2 : slots + 0 ≤ room_1.slots := by show slots + 0 ≤ 7302250; omega
  have hz3 : cells + 62 ≤ room_1.cells := hc1
  have hz4 : slots + 8804 ≤ room_1.slots := hc2
  have hz5 : cells + 62 + 0 ≤ room_1.cells := hc1
  have hz6 : slots + 8804 + 0 ≤ room_1.slots := hc2
  refine lv_aload_n hx hb dL_law_629 rfl (lv_at hl 1 rfl) ?_
  refine lv_aload_n hx hb dL_law_630 rfl (lv_at hl 0 rfl) ?_
  refine lv_iload_n hx hb dL_law_631 rfl (lv_at hl 3 rfl) ?_
  refine lv_iconst (v := (1 : Int32)) hx hb dL_law_632 (by decide) ?_
  refine lv_iadd hx hb dL_law_633 ?_
  refine va_sld hx hb hX hbl hbA hS h1 dL_law_634 ?_
  refine lv_aload_n hx hb dL_law_635 rfl (lv_at hl 0 rfl) ?_
  refine lv_iload_n hx hb dL_law_636 rfl (lv_at hl 3 rfl) ?_
  refine lv_iconst (v := (2 : Int32)) hx hb dL_law_637 (by decide) ?_
  refine lv_iadd hx hb dL_law_638 ?_
  refine va_sld hx hb hX hbl hbA hS h2 dL_law_639 ?_
  obtain ⟨fs0, hm0⟩ := hI.cx
  refine k_calli (va_runV (As := [.int (xs (k0 + (1 : Int32)).toNatClampNeg), .int (xs (k0 + (2 : Int32)).toNatClampNeg)]) (rest := []) ⟨hx, hb, hml, hown, hts⟩ (c_X3_printed l G 62 8804 _ _ _ x (xs (k0 + (1 : Int32)).toNatClampNeg) (xs (k0 + (2 : Int32)).toNatClampNeg) (l_printed hok hI)) (cwV 2 hts gL_law_X3_printed rfl rfl rfl (by decide +kernel) ⟨Nat.le_of_ble_eq_true rfl, Nat.le_of_ble_eq_true rfl⟩) (k_preV (q := (RX3, TX3, 8)) hm0 rfl hR hS hA hE) rfl rfl hl.1 rfl (lv_room (Nat.le_of_ble_eq_true rfl)) dL_law_640 ⟨hz3, hz4⟩) hR hS hA (fun v1 M0 H0 locs0 hv hR hS => ?_)
  obtain ⟨e1, hI⟩ := hv
  refine lv_aload_n hx hb dL_law_643 rfl (lv_at hl 2 rfl) ?_
  refine lv_aload_n hx hb dL_law_644 rfl (lv_at hl 0 rfl) ?_
  refine lv_iload_n hx hb dL_law_645 rfl (lv_at hl 3 rfl) ?_
  refine lv_iconst (v := (1 : Int32)) hx hb dL_law_646 (by decide) ?_
  refine lv_iadd hx hb dL_law_647 ?_
  refine va_sld hx hb hX hbl hbA hS h1 dL_law_648 ?_
  refine lv_aload_n hx hb dL_law_649 rfl (lv_at hl 0 rfl) ?_
  refine lv_iload_n hx hb dL_law_650 rfl (lv_at hl 3 rfl) ?_
  refine lv_iconst (v := (2 : Int32)) hx hb dL_law_651 (by decide) ?_
  refine lv_iadd hx hb dL_law_652 ?_
  refine va_sld hx hb hX hbl hbA hS h2 dL_law_653 ?_
  obtain ⟨fs1, hm1⟩ := hI.cy
  refine k_calli0 (va_runV (As := [.int (xs (k0 + (1 : Int32)).toNatClampNeg), .int (xs (k0 + (2 : Int32)).toNatClampNeg)]) (rest := [.int v1]) ⟨hx, hb, hml, hown, hts⟩ (c_X4_printed l G _ _ _ y (xs (k0 + (1 : Int32)).toNatClampNeg) (xs (k0 + (2 : Int32)).toNatClampNeg) (r_printed hok hI)) (cwV 2 hts gL_law_X4_printed rfl rfl rfl (by decide +kernel) ⟨Nat.le_of_ble_eq_true rfl, Nat.le_of_ble_eq_true rfl⟩) (k_preV (q := (RX4, TX4, 13)) hm1 rfl hR hS hA hE) rfl rfl hl.1 rfl (lv_room (Nat.le_of_ble_eq_true rfl)) dL_law_654 ⟨hz5, hz6⟩) hR hS hA (fun v2 M1 H1 locs1 hv hR hS => ?_)
  obtain ⟨e2, hI⟩ := hv
  refine lv_icmp_eq (tgt := 866) hx hb dL_law_657 (by decide) (fun _ => ?_) (fun z => absurd (e1.trans e2.symm) z)
  exact kk _ _ _ _ hok hI hR hS
set_option maxHeartbeats 4000000 in
set_option maxRecDepth 100000 in
theorem lc_ifReceive {p : Program} {l : Launch} {e : Env} {s : State} {m : MethodId} {below : List Frame} {meth : Method} {c : Code} {b L : Nat} {xs : Nat → Int32} {G : k_G} {Q : State → Prop} (C0 : lw_At p s m meth c b L xs) (hE : kE G (fun q : Nat => s.heap.size ≤ q) s)
    {x y : Nat} {F : kF} {M : k_M} {H : Heap} {locs : List Loc} {k0 : Int32} {ls : Array Slot} {cells slots : Nat} (h1 : vp_in (k0 + (1 : Int32)) L) (h2 : vp_in (k0 + (2 : Int32)) L) (h3 : vp_in (k0 + (3 : Int32)) L) (h4 : vp_in (k0 + (4 : Int32)) L)
    (hok : okF F) (hI : lI G M x y F F) (hR : kR G M (fun q : Nat => s.heap.size ≤ q) H) (hS : va_S (fun q : Nat => s.heap.size ≤ q) s.heap H locs) (hl : lv_has ls 4 [(0, .ref b), (1, .ref x), (2, .ref y), (3, .int k0)]) (hc1 : cells + 62 ≤ 600000) (hc2 : slots + 8804 ≤ 7302250)
    (kk : ∀ (F1 : kF) (M1 : k_M) (H1 : Heap) (locs1 : List Loc), okF F1 → lI G M1 x y F1 F1 → kR G M1 (fun q : Nat => s.heap.size ≤ q) H1 → va_S (fun q : Nat => s.heap.size ≤ q) s.heap H1 locs1 → W p l e room_1 s m #[Value.ref b] below meth c H1 locs1 (cells + 62) (slots + 8804) Q (F0 m 866 ls [])) :
    W p l e room_1 s m #[Value.ref b] below meth c H locs cells slots Q (F0 m 662 ls []) := by
  obtain ⟨hx, hb, hr, hml, hown0, hts0, hX, hbl, hlocks, hgv⟩ := id C0
  have hts := lw_hts hts0
  have hA : ∀ q : Nat, s.heap.size ≤ q → (fun q : Nat => s.heap.size ≤ q) q := fun _ h => h
  have hbA : ¬ (fun q : Nat => s.heap.size ≤ q) b := Nat.not_le.mpr hbl
  have hown : s.vm.findClass RL = some m.cls := hown0
  have hz1 : cells + 0 ≤ room_1.cells := by show cells + 0 ≤ 600000; omega
  have hz2 : slots + 0 ≤ room_1.slots := by show slots + 0 ≤ 7302250; omega
  have hz3 : cells + 62 ≤ room_1.cells := hc1
  have hz4 : slots + 8804 ≤ room_1.slots := hc2
  have hz5 : cells + 62 + 0 ≤ room_1.cells := hc1
  have hz6 : slots + 8804 + 0 ≤ room_1.slots := hc2
  refine lv_aload_n hx hb dL_law_662 rfl (lv_at hl 1 rfl) ?_
  refine lv_aload_n hx hb dL_law_663 rfl (lv_at hl 0 rfl) ?_
  refine lv_iload_n hx hb dL_law_664 rfl (lv_at hl 3 rfl) ?_
  refine lv_iconst (v := (1 : Int32)) hx hb dL_law_665 (by decide) ?_
  refine lv_iadd hx hb dL_law_666 ?_
  refine va_sld hx hb hX hbl hbA hS h1 dL_law_667 ?_
  refine lv_aload_n hx hb dL_law_668 rfl (lv_at hl 0 rfl) ?_
  refine lv_iload_n hx hb dL_law_669 rfl (lv_at hl 3 rfl) ?_
  refine lv_iconst (v := (2 : Int32)) hx hb dL_law_670 (by decide) ?_
  refine lv_iadd hx hb dL_law_671 ?_
  refine va_sld hx hb hX hbl hbA hS h2 dL_law_672 ?_
  refine lv_aload_n hx hb dL_law_673 rfl (lv_at hl 0 rfl) ?_
  refine lv_iload_n hx hb dL_law_674 rfl (lv_at hl 3 rfl) ?_
  refine lv_iconst (v := (3 : Int32)) hx hb dL_law_675 (by decide) ?_
  refine lv_iadd hx hb dL_law_676 ?_
  refine va_sld hx hb hX hbl hbA hS h3 dL_law_677 ?_
  obtain ⟨fs0, hm0⟩ := hI.cx
  refine k_calli0 (va_runV (As := [.int (xs (k0 + (1 : Int32)).toNatClampNeg), .int (xs (k0 + (2 : Int32)).toNatClampNeg), .int (xs (k0 + (3 : Int32)).toNatClampNeg)]) (rest := []) ⟨hx, hb, hml, hown, hts⟩ (c_X3_ifReceive l G _ _ _ x (xs (k0 + (1 : Int32)).toNatClampNeg) (xs (k0 + (2 : Int32)).toNatClampNeg) (xs (k0 + (3 : Int32)).toNatClampNeg) (l_ifReceive hok hI)) (cwV 3 hts gL_law_X3_ifReceive rfl rfl rfl (by decide +kernel) ⟨Nat.le_of_ble_eq_true rfl, Nat.le_of_ble_eq_true rfl⟩) (k_preV (q := (RX3, TX3, 8)) hm0 rfl hR hS hA hE) rfl rfl hl.1 rfl (lv_room (Nat.le_of_ble_eq_true rfl)) dL_law_678 ⟨hz1, hz2⟩) hR hS hA (fun v1 M0 H0 locs0 hv hR hS => ?_)
  obtain ⟨e1, hI⟩ := hv
  refine lv_aload_n hx hb dL_law_681 rfl (lv_at hl 2 rfl) ?_
  refine lv_aload_n hx hb dL_law_682 rfl (lv_at hl 0 rfl) ?_
  refine lv_iload_n hx hb dL_law_683 rfl (lv_at hl 3 rfl) ?_
  refine lv_iconst (v := (1 : Int32)) hx hb dL_law_684 (by decide) ?_
  refine lv_iadd hx hb dL_law_685 ?_
  refine va_sld hx hb hX hbl hbA hS h1 dL_law_686 ?_
  refine lv_aload_n hx hb dL_law_687 rfl (lv_at hl 0 rfl) ?_
  refine lv_iload_n hx hb dL_law_688 rfl (lv_at hl 3 rfl) ?_
  refine lv_iconst (v := (2 : Int32)) hx hb dL_law_689 (by decide) ?_
  refine lv_iadd hx hb dL_law_690 ?_
  refine va_sld hx hb hX hbl hbA hS h2 dL_law_691 ?_
  refine lv_aload_n hx hb dL_law_692 rfl (lv_at hl 0 rfl) ?_
  refine lv_iload_n hx hb dL_law_693 rfl (lv_at hl 3 rfl) ?_
  refine lv_iconst (v := (3 : Int32)) hx hb dL_law_694 (by decide) ?_
  refine lv_iadd hx hb dL_law_695 ?_
  refine va_sld hx hb hX hbl hbA hS h3 dL_law_696 ?_
  obtain ⟨fs1, hm1⟩ := hI.cy
  refine k_calli0 (va_runV (As := [.int (xs (k0 + (1 : Int32)).toNatClampNeg), .int (xs (k0 + (2 : Int32)).toNatClampNeg), .int (xs (k0 + (3 : Int32)).toNatClampNeg)]) (rest := [.int v1]) ⟨hx, hb, hml, hown, hts⟩ (c_X4_ifReceive l G _ _ _ y (xs (k0 + (1 : Int32)).toNatClampNeg) (xs (k0 + (2 : Int32)).toNatClampNeg) (xs (k0 + (3 : Int32)).toNatClampNeg) (r_ifReceive hok hI)) (cwV 3 hts gL_law_X4_ifReceive rfl rfl rfl (by decide +kernel) ⟨Nat.le_of_ble_eq_true rfl, Nat.le_of_ble_eq_true rfl⟩) (k_preV (q := (RX4, TX4, 13)) hm1 rfl hR hS hA hE) rfl rfl hl.1 rfl (lv_room (Nat.le_of_ble_eq_true rfl)) dL_law_697 ⟨hz1, hz2⟩) hR hS hA (fun v2 M1 H1 locs1 hv hR hS => ?_)
  obtain ⟨e2, hI⟩ := hv
  refine lv_icmp_eq (tgt := 866) hx hb dL_law_700 (by decide) (fun _ => ?_) (fun z => absurd (e1.trans e2.symm) z)
  refine W.widen (k := cells + 62) (n := slots + 8804) (Nat.le_add_right _ _) (Nat.le_add_right _ _) ?_
  exact kk _ _ _ _ hok hI hR hS
set_option maxHeartbeats 4000000 in
set_option maxRecDepth 100000 in
theorem lc_laggard {p : Program} {l : Launch} {e : Env} {s : State} {m : MethodId} {below : List Frame} {meth : Method} {c : Code} {b L : Nat} {xs : Nat → Int32} {G : k_G} {Q : State → Prop} (C0 : lw_At p s m meth c b L xs) (hE : kE G (fun q : Nat => s.heap.size ≤ q) s)
    {x y : Nat} {F : kF} {M : k_M} {H : Heap} {locs : List Loc} {k0 : Int32} {ls : Array Slot} {cells slots : Nat} (h1 : vp_in (k0 + (1 : Int32)) L) (h2 : vp_in (k0 + (2 : Int32)) L) (h3 : vp_in (k0 + (3 : Int32)) L) (h4 : vp_in (k0 + (4 : Int32)) L)
    (hok : okF F) (hI : lI G M x y F F) (hR : kR G M (fun q : Nat => s.heap.size ≤ q) H) (hS : va_S (fun q : Nat => s.heap.size ≤ q) s.heap H locs) (hl : lv_has ls 4 [(0, .ref b), (1, .ref x), (2, .ref y), (3, .int k0)]) (hc1 : cells + 62 ≤ 600000) (hc2 : slots + 8804 ≤ 7302250)
    (kk : ∀ (F1 : kF) (M1 : k_M) (H1 : Heap) (locs1 : List Loc), okF F1 → lI G M1 x y F1 F1 → kR G M1 (fun q : Nat => s.heap.size ≤ q) H1 → va_S (fun q : Nat => s.heap.size ≤ q) s.heap H1 locs1 → W p l e room_1 s m #[Value.ref b] below meth c H1 locs1 (cells + 62) (slots + 8804) Q (F0 m 866 ls [])) :
    W p l e room_1 s m #[Value.ref b] below meth c H locs cells slots Q (F0 m 705 ls []) := by
  obtain ⟨hx, hb, hr, hml, hown0, hts0, hX, hbl, hlocks, hgv⟩ := id C0
  have hts := lw_hts hts0
  have hA : ∀ q : Nat, s.heap.size ≤ q → (fun q : Nat => s.heap.size ≤ q) q := fun _ h => h
  have hbA : ¬ (fun q : Nat => s.heap.size ≤ q) b := Nat.not_le.mpr hbl
  have hown : s.vm.findClass RL = some m.cls := hown0
  have hz1 : cells + 0 ≤ room_1.cells := by show cells + 0 ≤ 600000; omega
  have hz2 : slots + 0 ≤ room_1.slots := by show slots + 0 ≤ 7302250; omega
  have hz3 : cells + 62 ≤ room_1.cells := hc1
  have hz4 : slots + 8804 ≤ room_1.slots := hc2
  have hz5 : cells + 62 + 0 ≤ room_1.cells := hc1
  have hz6 : slots + 8804 + 0 ≤ room_1.slots := hc2
  refine lv_aload_n hx hb dL_law_705 rfl (lv_at hl 1 rfl) ?_
  refine lv_aload_n hx hb dL_law_706 rfl (lv_at hl 0 rfl) ?_
  refine lv_iload_n hx hb dL_law_707 rfl (lv_at hl 3 rfl) ?_
  refine lv_iconst (v := (1 : Int32)) hx hb dL_law_708 (by decide) ?_
  refine lv_iadd hx hb dL_law_709 ?_
  refine va_sld hx hb hX hbl hbA hS h1 dL_law_710 ?_
  obtain ⟨fs0, hm0⟩ := hI.cx
  refine k_calli0 (va_runV (As := [.int (xs (k0 + (1 : Int32)).toNatClampNeg)]) (rest := []) ⟨hx, hb, hml, hown, hts⟩ (c_X3_laggard l G _ _ _ x (xs (k0 + (1 : Int32)).toNatClampNeg) (l_laggard hok hI)) (cwV 1 hts gL_law_X3_laggard rfl rfl rfl (by decide +kernel) ⟨Nat.le_of_ble_eq_true rfl, Nat.le_of_ble_eq_true rfl⟩) (k_preV (q := (RX3, TX3, 8)) hm0 rfl hR hS hA hE) rfl rfl hl.1 rfl (lv_room (Nat.le_of_ble_eq_true rfl)) dL_law_711 ⟨hz1, hz2⟩) hR hS hA (fun v1 M0 H0 locs0 hv hR hS => ?_)
  obtain ⟨e1, hI⟩ := hv
  refine lv_aload_n hx hb dL_law_714 rfl (lv_at hl 2 rfl) ?_
  refine lv_aload_n hx hb dL_law_715 rfl (lv_at hl 0 rfl) ?_
  refine lv_iload_n hx hb dL_law_716 rfl (lv_at hl 3 rfl) ?_
  refine lv_iconst (v := (1 : Int32)) hx hb dL_law_717 (by decide) ?_
  refine lv_iadd hx hb dL_law_718 ?_
  refine va_sld hx hb hX hbl hbA hS h1 dL_law_719 ?_
  obtain ⟨fs1, hm1⟩ := hI.cy
  refine k_calli0 (va_runV (As := [.int (xs (k0 + (1 : Int32)).toNatClampNeg)]) (rest := [.int v1]) ⟨hx, hb, hml, hown, hts⟩ (c_X4_laggard l G _ _ _ y (xs (k0 + (1 : Int32)).toNatClampNeg) (r_laggard hok hI)) (cwV 1 hts gL_law_X4_laggard rfl rfl rfl (by decide +kernel) ⟨Nat.le_of_ble_eq_true rfl, Nat.le_of_ble_eq_true rfl⟩) (k_preV (q := (RX4, TX4, 13)) hm1 rfl hR hS hA hE) rfl rfl hl.1 rfl (lv_room (Nat.le_of_ble_eq_true rfl)) dL_law_720 ⟨hz1, hz2⟩) hR hS hA (fun v2 M1 H1 locs1 hv hR hS => ?_)
  obtain ⟨e2, hI⟩ := hv
  refine lv_icmp_eq (tgt := 866) hx hb dL_law_723 (by decide) (fun _ => ?_) (fun z => absurd (e1.trans e2.symm) z)
  refine W.widen (k := cells + 62) (n := slots + 8804) (Nat.le_add_right _ _) (Nat.le_add_right _ _) ?_
  exact kk _ _ _ _ hok hI hR hS
