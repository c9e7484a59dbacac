/-! ===== the law: its calls, 2 ===== -/
set_option maxHeartbeats 4000000 in
set_option maxRecDepth 100000 in
theorem lc_of {p : Program} {l : Launch} {e : Env} {s : State} {m : MethodId} {below : List Frame} {meth : Method} {c : Code} {b L : Nat} {xs : Nat → Int32} {G : k_G} {Q : State → Prop} (C0 : lw_At p s m meth c b L xs) (hE : kE G (fun q : Nat => s.heap.size ≤ q) s)
    {x y : Nat} {F : kF} {M : k_M} {H : Heap} {locs : List Loc} {k0 : Int32} {ls : Array Slot} {cells slots : Nat} (h1 : vp_in (k0 + (1 : Int32)) L) (h2 : vp_in (k0 + (2 : Int32)) L) (h3 : vp_in (k0 + (3 : Int32)) L) (h4 : vp_in (k0 + (4 : Int32)) L)
    (hok : okF F) (hI : lI G M x y F F) (hR : kR G M (fun q : Nat => s.heap.size ≤ q) H) (hS : va_S (fun q : Nat => s.heap.size ≤ q) s.heap H locs) (hl : lv_has ls 4 [(0, .ref b), (1, .ref x), (2, .ref y), (3, .int k0)]) (hc1 : cells + 62 ≤ 600000) (hc2 : slots + 8804 ≤ 7302250)
    (kk : ∀ (F1 : kF) (M1 : k_M) (H1 : Heap) (locs1 : List Loc), okF F1 → lI G M1 x y F1 F1 → kR G M1 (fun q : Nat => s.heap.size ≤ q) H1 → va_S (fun q : Nat => s.heap.size ≤ q) s.heap H1 locs1 → W p l e room_1 s m #[Value.ref b] below meth c H1 locs1 (cells + 62) (slots + 8804) Q (F0 m 866 ls [])) :
    W p l e room_1 s m #[Value.ref b] below meth c H locs cells slots Q (F0 m 302 ls []) := by
  obtain ⟨hx, hb, hr, hml, hown0, hts0, hX, hbl, hlocks, hgv⟩ := id C0
  have hts := lw_hts hts0
  have hA : ∀ q : Nat, s.heap.size ≤ q → (fun q : Nat => s.heap.size ≤ q) q := fun _ h => h
  have hbA : ¬ (fun q : Nat => s.heap.size ≤ q) b := Nat.not_le.mpr hbl
  have hown : s.vm.findClass RL = some m.cls := hown0
  have hz1 : cells + 0 ≤ room_1.cells := by show cells + 0 ≤ 600000; omega
  have hz2 : slots + 0 ≤ room_1.slots := by show slots + 0 ≤ 7302250; omega
  have hz3 : cells + 62 ≤ room_1.cells := hc1
  have hz4 : slots + 8804 ≤ room_1.slots := hc2
  have hz5 : cells + 62 + 0 ≤ room_1.cells := hc1
  have hz6 : slots + 8804 + 0 ≤ room_1.slots := hc2
  refine lv_aload_n hx hb dL_law_302 rfl (lv_at hl 1 rfl) ?_
  refine lv_aload_n hx hb dL_law_303 rfl (lv_at hl 0 rfl) ?_
  refine lv_iload_n hx hb dL_law_304 rfl (lv_at hl 3 rfl) ?_
  refine lv_iconst (v := (1 : Int32)) hx hb dL_law_305 (by decide) ?_
  refine lv_iadd hx hb dL_law_306 ?_
  refine va_sld hx hb hX hbl hbA hS h1 dL_law_307 ?_
  refine lv_aload_n hx hb dL_law_308 rfl (lv_at hl 0 rfl) ?_
  refine lv_iload_n hx hb dL_law_309 rfl (lv_at hl 3 rfl) ?_
  refine lv_iconst (v := (2 : Int32)) hx hb dL_law_310 (by decide) ?_
  refine lv_iadd hx hb dL_law_311 ?_
  refine va_sld hx hb hX hbl hbA hS h2 dL_law_312 ?_
  obtain ⟨fs0, hm0⟩ := hI.cx
  refine k_calli (va_runV (As := [.int (xs (k0 + (1 : Int32)).toNatClampNeg), .int (xs (k0 + (2 : Int32)).toNatClampNeg)]) (rest := []) ⟨hx, hb, hml, hown, hts⟩ (c_X3_of l G 62 8804 _ _ _ x (xs (k0 + (1 : Int32)).toNatClampNeg) (xs (k0 + (2 : Int32)).toNatClampNeg) (l_of hok hI)) (cwV 2 hts gL_law_X3_of rfl rfl rfl (by decide +kernel) ⟨Nat.le_of_ble_eq_true rfl, Nat.le_of_ble_eq_true rfl⟩) (k_preV (q := (RX3, TX3, 8)) hm0 rfl hR hS hA hE) rfl rfl hl.1 rfl (lv_room (Nat.le_of_ble_eq_true rfl)) dL_law_313 ⟨hz3, hz4⟩) hR hS hA (fun v1 M0 H0 locs0 hv hR hS => ?_)
  obtain ⟨e1, hI⟩ := hv
  refine lv_aload_n hx hb dL_law_316 rfl (lv_at hl 2 rfl) ?_
  refine lv_aload_n hx hb dL_law_317 rfl (lv_at hl 0 rfl) ?_
  refine lv_iload_n hx hb dL_law_318 rfl (lv_at hl 3 rfl) ?_
  refine lv_iconst (v := (1 : Int32)) hx hb dL_law_319 (by decide) ?_
  refine lv_iadd hx hb dL_law_320 ?_
  refine va_sld hx hb hX hbl hbA hS h1 dL_law_321 ?_
  refine lv_aload_n hx hb dL_law_322 rfl (lv_at hl 0 rfl) ?_
  refine lv_iload_n hx hb dL_law_323 rfl (lv_at hl 3 rfl) ?_
  refine lv_iconst (v := (2 : Int32)) hx hb dL_law_324 (by decide) ?_
  refine lv_iadd hx hb dL_law_325 ?_
  refine va_sld hx hb hX hbl hbA hS h2 dL_law_326 ?_
  obtain ⟨fs1, hm1⟩ := hI.cy
  refine k_calli0 (va_runV (As := [.int (xs (k0 + (1 : Int32)).toNatClampNeg), .int (xs (k0 + (2 : Int32)).toNatClampNeg)]) (rest := [.int v1]) ⟨hx, hb, hml, hown, hts⟩ (c_X4_of l G _ _ _ y (xs (k0 + (1 : Int32)).toNatClampNeg) (xs (k0 + (2 : Int32)).toNatClampNeg) (r_of hok hI)) (cwV 2 hts gL_law_X4_of rfl rfl rfl (by decide +kernel) ⟨Nat.le_of_ble_eq_true rfl, Nat.le_of_ble_eq_true rfl⟩) (k_preV (q := (RX4, TX4, 13)) hm1 rfl hR hS hA hE) rfl rfl hl.1 rfl (lv_room (Nat.le_of_ble_eq_true rfl)) dL_law_327 ⟨hz5, hz6⟩) hR hS hA (fun v2 M1 H1 locs1 hv hR hS => ?_)
  obtain ⟨e2, hI⟩ := hv
  refine lv_icmp_eq (tgt := 866) hx hb dL_law_330 (by decide) (fun _ => ?_) (fun z => absurd (e1.trans e2.symm) z)
  exact kk _ _ _ _ hok hI hR hS
set_option maxHeartbeats 4000000 in
set_option maxRecDepth 100000 in
theorem lc_ofMessage {p : Program} {l : Launch} {e : Env} {s : State} {m : MethodId} {below : List Frame} {meth : Method} {c : Code} {b L : Nat} {xs : Nat → Int32} {G : k_G} {Q : State → Prop} (C0 : lw_At p s m meth c b L xs) (hE : kE G (fun q : Nat => s.heap.size ≤ q) s)
    {x y : Nat} {F : kF} {M : k_M} {H : Heap} {locs : List Loc} {k0 : Int32} {ls : Array Slot} {cells slots : Nat} (h1 : vp_in (k0 + (1 : Int32)) L) (h2 : vp_in (k0 + (2 : Int32)) L) (h3 : vp_in (k0 + (3 : Int32)) L) (h4 : vp_in (k0 + (4 : Int32)) L)
    (hok : okF F) (hI : lI G M x y F F) (hR : kR G M (fun q : Nat => s.heap.size ≤ q) H) (hS : va_S (fun q : Nat => s.heap.size ≤ q) s.heap H locs) (hl : lv_has ls 4 [(0, .ref b), (1, .ref x), (2, .ref y), (3, .int k0)]) (hc1 : cells + 62 ≤ 600000) (hc2 : slots + 8804 ≤ 7302250)
    (kk : ∀ (F1 : kF) (M1 : k_M) (H1 : Heap) (locs1 : List Loc), okF F1 → lI G M1 x y F1 F1 → kR G M1 (fun q : Nat => s.heap.size ≤ q) H1 → va_S (fun q : Nat => s.heap.size ≤ q) s.heap H1 locs1 → W p l e room_1 s m #[Value.ref b] below meth c H1 locs1 (cells + 62) (slots + 8804) Q (F0 m 866 ls [])) :
    W p l e room_1 s m #[Value.ref b] below meth c H locs cells slots Q (F0 m 335 ls []) := by
  obtain ⟨hx, hb, hr, hml, hown0, hts0, hX, hbl, hlocks, hgv⟩ := id C0
  have hts := lw_hts hts0
  have hA : ∀ q : Nat, s.heap.size ≤ q → (fun q : Nat => s.heap.size ≤ q) q := fun _ h => h
  have hbA : ¬ (fun q : Nat => s.heap.size ≤ q) b := Nat.not_le.mpr hbl
  have hown : s.vm.findClass RL = some m.cls := hown0
  have hz1 : cells + 0 ≤ room_1.cells := by show cells + 0 ≤ 600000; omega
  have hz2 : slots + 0 ≤ room_1.slots := by show slots + 0 ≤ 7302250; omega
  have hz3 : cells + 62 ≤ room_1.cells := hc1
  have hz4 : slots + 8804 ≤ room_1.slots := hc2
  have hz5 : cells + 62 + 0 ≤ room_1.cells := hc1
  have hz6 : slots + 8804 + 0 ≤ room_1.slots := hc2
  refine lv_aload_n hx hb dL_law_335 rfl (lv_at hl 1 rfl) ?_
  refine lv_aload_n hx hb dL_law_336 rfl (lv_at hl 0 rfl) ?_
  refine lv_iload_n hx hb dL_law_337 rfl (lv_at hl 3 rfl) ?_
  refine lv_iconst (v := (1 : Int32)) hx hb dL_law_338 (by decide) ?_
  refine lv_iadd hx hb dL_law_339 ?_
  refine va_sld hx hb hX hbl hbA hS h1 dL_law_340 ?_
  refine lv_aload_n hx hb dL_law_341 rfl (lv_at hl 0 rfl) ?_
  refine lv_iload_n hx hb dL_law_342 rfl (lv_at hl 3 rfl) ?_
  refine lv_iconst (v := (2 : Int32)) hx hb dL_law_343 (by decide) ?_
  refine lv_iadd hx hb dL_law_344 ?_
  refine va_sld hx hb hX hbl hbA hS h2 dL_law_345 ?_
  obtain ⟨fs0, hm0⟩ := hI.cx
  refine k_calli0 (va_runV (As := [.int (xs (k0 + (1 : Int32)).toNatClampNeg), .int (xs (k0 + (2 : Int32)).toNatClampNeg)]) (rest := []) ⟨hx, hb, hml, hown, hts⟩ (c_X3_ofMessage l G _ _ _ x (xs (k0 + (1 : Int32)).toNatClampNeg) (xs (k0 + (2 : Int32)).toNatClampNeg) (l_ofMessage hok hI)) (cwV 2 hts gL_law_X3_ofMessage rfl rfl rfl (by decide +kernel) ⟨Nat.le_of_ble_eq_true rfl, Nat.le_of_ble_eq_true rfl⟩) (k_preV (q := (RX3, TX3, 8)) hm0 rfl hR hS hA hE) rfl rfl hl.1 rfl (lv_room (Nat.le_of_ble_eq_true rfl)) dL_law_346 ⟨hz1, hz2⟩) hR hS hA (fun v1 M0 H0 locs0 hv hR hS => ?_)
  obtain ⟨e1, hI⟩ := hv
  refine lv_aload_n hx hb dL_law_349 rfl (lv_at hl 2 rfl) ?_
  refine lv_aload_n hx hb dL_law_350 rfl (lv_at hl 0 rfl) ?_
  refine lv_iload_n hx hb dL_law_351 rfl (lv_at hl 3 rfl) ?_
  refine lv_iconst (v := (1 : Int32)) hx hb dL_law_352 (by decide) ?_
  refine lv_iadd hx hb dL_law_353 ?_
  refine va_sld hx hb hX hbl hbA hS h1 dL_law_354 ?_
  refine lv_aload_n hx hb dL_law_355 rfl (lv_at hl 0 rfl) ?_
  refine lv_iload_n hx hb dL_law_356 rfl (lv_at hl 3 rfl) ?_
  refine lv_iconst (v := (2 : Int32)) hx hb dL_law_357 (by decide) ?_
  refine lv_iadd hx hb dL_law_358 ?_
  refine va_sld hx hb hX hbl hbA hS h2 dL_law_359 ?_
  obtain ⟨fs1, hm1⟩ := hI.cy
  refine k_calli0 (va_runV (As := [.int (xs (k0 + (1 : Int32)).toNatClampNeg), .int (xs (k0 + (2 : Int32)).toNatClampNeg)]) (rest := [.int v1]) ⟨hx, hb, hml, hown, hts⟩ (c_X4_ofMessage l G _ _ _ y (xs (k0 + (1 : Int32)).toNatClampNeg) (xs (k0 + (2 : Int32)).toNatClampNeg) (r_ofMessage hok hI)) (cwV 2 hts gL_law_X4_ofMessage rfl rfl rfl (by decide +kernel) ⟨Nat.le_of_ble_eq_true rfl, Nat.le_of_ble_eq_true rfl⟩) (k_preV (q := (RX4, TX4, 13)) hm1 rfl hR hS hA hE) rfl rfl hl.1 rfl (lv_room (Nat.le_of_ble_eq_true rfl)) dL_law_360 ⟨hz1, hz2⟩) hR hS hA (fun v2 M1 H1 locs1 hv hR hS => ?_)
  obtain ⟨e2, hI⟩ := hv
  refine lv_icmp_eq (tgt := 866) hx hb dL_law_363 (by decide) (fun _ => ?_) (fun z => absurd (e1.trans e2.symm) z)
  refine W.widen (k := cells + 62) (n := slots + 8804) (Nat.le_add_right _ _) (Nat.le_add_right _ _) ?_
  exact kk _ _ _ _ hok hI hR hS
set_option maxHeartbeats 4000000 in
set_option maxRecDepth 100000 in
theorem lc_height {p : Program} {l : Launch} {e : Env} {s : State} {m : MethodId} {below : List Frame} {meth : Method} {c : Code} {b L : Nat} {xs : Nat → Int32} {G : k_G} {Q : State → Prop} (C0 : lw_At p s m meth c b L xs) (hE : kE G (fun q : Nat => s.heap.size ≤ q) s)
    {x y : Nat} {F : kF} {M : k_M} {H : Heap} {locs : List Loc} {k0 : Int32} {ls : Array Slot} {cells slots : Nat} (h1 : vp_in (k0 + (1 : Int32)) L) (h2 : vp_in (k0 + (2 : Int32)) L) (h3 : vp_in (k0 + (3 : Int32)) L) (h4 : vp_in (k0 + (4 : Int32)) L)
    (hok : okF F) (hI : lI G M x y F F) (hR : kR G M (fun q : Nat => s.heap.size ≤ q) H) (hS : va_S (fun q : Nat => s.heap.size ≤ q) s.heap H locs) (hl : lv_has ls 4 [(0, .ref b), (1, .ref x), (2, .ref y), (3, .int k0)]) (hc1 : cells + 62 ≤ 600000) (hc2 : slots + 8804 ≤ 7302250)
    (kk : ∀ (F1 : kF) (M1 : k_M) (H1 : Heap) (locs1 : List Loc), okF F1 → lI G M1 x y F1 F1 → kR G M1 (fun q : Nat => s.heap.size ≤ q) H1 → va_S (fun q : Nat => s.heap.size ≤ q) s.heap H1 locs1 → W p l e room_1 s m #[Value.ref b] below meth c H1 locs1 (cells + 62) (slots + 8804) Q (F0 m 866 ls [])) :
    W p l e room_1 s m #[Value.ref b] below meth c H locs cells slots Q (F0 m 368 ls []) := by
  obtain ⟨hx, hb, hr, hml, hown0, hts0, hX, hbl, hlocks, hgv⟩ := id C0
  have hts := lw_hts hts0
  have hA : ∀ q : Nat, s.heap.size ≤ q → (fun q : Nat => s.heap.size ≤ q) q := fun _ h => h
  have hbA : ¬ (fun q : Nat => s.heap.size ≤ q) b := Nat.not_le.mpr hbl
  have hown : s.vm.findClass RL = some m.cls := hown0
  have hz1 : cells + 0 ≤ room_1.cells := by show cells + 0 ≤ 600000; omega
  have hz2 : slots + 0 ≤ room_1.slots := by show slots + 0 ≤ 7302250; omega
  have hz3 : cells + 62 ≤ room_1.cells := hc1
  have hz4 : slots + 8804 ≤ room_1.slots := hc2
  have hz5 : cells + 62 + 0 ≤ room_1.cells := hc1
  have hz6 : slots + 8804 + 0 ≤ room_1.slots := hc2
  refine lv_aload_n hx hb dL_law_368 rfl (lv_at hl 1 rfl) ?_
  refine lv_aload_n hx hb dL_law_369 rfl (lv_at hl 0 rfl) ?_
  refine lv_iload_n hx hb dL_law_370 rfl (lv_at hl 3 rfl) ?_
  refine lv_iconst (v := (1 : Int32)) hx hb dL_law_371 (by decide) ?_
  refine lv_iadd hx hb dL_law_372 ?_
  refine va_sld hx hb hX hbl hbA hS h1 dL_law_373 ?_
  refine lv_aload_n hx hb dL_law_374 rfl (lv_at hl 0 rfl) ?_
  refine lv_iload_n hx hb dL_law_375 rfl (lv_at hl 3 rfl) ?_
  refine lv_iconst (v := (2 : Int32)) hx hb dL_law_376 (by decide) ?_
  refine lv_iadd hx hb dL_law_377 ?_
  refine va_sld hx hb hX hbl hbA hS h2 dL_law_378 ?_
  refine lv_aload_n hx hb dL_law_379 rfl (lv_at hl 0 rfl) ?_
  refine lv_iload_n hx hb dL_law_380 rfl (lv_at hl 3 rfl) ?_
  refine lv_iconst (v := (3 : Int32)) hx hb dL_law_381 (by decide) ?_
  refine lv_iadd hx hb dL_law_382 ?_
  refine va_sld hx hb hX hbl hbA hS h3 dL_law_383 ?_
  obtain ⟨fs0, hm0⟩ := hI.cx
  refine k_calli0 (va_runV (As := [.int (xs (k0 + (1 : Int32)).toNatClampNeg), .int (xs (k0 + (2 : Int32)).toNatClampNeg), .int (xs (k0 + (3 : Int32)).toNatClampNeg)]) (rest := []) ⟨hx, hb, hml, hown, hts⟩ (c_X3_height l G _ _ _ x (xs (k0 + (1 : Int32)).toNatClampNeg) (xs (k0 + (2 : Int32)).toNatClampNeg) (xs (k0 + (3 : Int32)).toNatClampNeg) (l_height hok hI)) (cwV 3 hts gL_law_X3_height rfl rfl rfl (by decide +kernel) ⟨Nat.le_of_ble_eq_true rfl, Nat.le_of_ble_eq_true rfl⟩) (k_preV (q := (RX3, TX3, 8)) hm0 rfl hR hS hA hE) rfl rfl hl.1 rfl (lv_room (Nat.le_of_ble_eq_true rfl)) dL_law_384 ⟨hz1, hz2⟩) hR hS hA (fun v1 M0 H0 locs0 hv hR hS => ?_)
  obtain ⟨e1, hI⟩ := hv
  refine lv_aload_n hx hb dL_law_387 rfl (lv_at hl 2 rfl) ?_
  refine lv_aload_n hx hb dL_law_388 rfl (lv_at hl 0 rfl) ?_
  refine lv_iload_n hx hb dL_law_389 rfl (lv_at hl 3 rfl) ?_
  refine lv_iconst (v := (1 : Int32)) hx hb dL_law_390 (by decide) ?_
  refine lv_iadd hx hb dL_law_391 ?_
  refine va_sld hx hb hX hbl hbA hS h1 dL_law_392 ?_
  refine lv_aload_n hx hb dL_law_393 rfl (lv_at hl 0 rfl) ?_
  refine lv_iload_n hx hb dL_law_394 rfl (lv_at hl 3 rfl) ?_
  refine lv_iconst (v := (2 : Int32)) hx hb dL_law_395 (by decide) ?_
  refine lv_iadd hx hb dL_law_396 ?_
  refine va_sld hx hb hX hbl hbA hS h2 dL_law_397 ?_
  refine lv_aload_n hx hb dL_law_398 rfl (lv_at hl 0 rfl) ?_
  refine lv_iload_n hx hb dL_law_399 rfl (lv_at hl 3 rfl) ?_
  refine lv_iconst (v := (3 : Int32)) hx hb dL_law_400 (by decide) ?_
  refine lv_iadd hx hb dL_law_401 ?_
  refine va_sld hx hb hX hbl hbA hS h3 dL_law_402 ?_
  obtain ⟨fs1, hm1⟩ := hI.cy
  refine k_calli0 (va_runV (As := [.int (xs (k0 + (1 : Int32)).toNatClampNeg), .int (xs (k0 + (2 : Int32)).toNatClampNeg), .int (xs (k0 + (3 : Int32)).toNatClampNeg)]) (rest := [.int v1]) ⟨hx, hb, hml, hown, hts⟩ (c_X4_height l G _ _ _ y (xs (k0 + (1 : Int32)).toNatClampNeg) (xs (k0 + (2 : Int32)).toNatClampNeg) (xs (k0 + (3 : Int32)).toNatClampNeg) (r_height hok hI)) (cwV 3 hts gL_law_X4_height rfl rfl rfl (by decide +kernel) ⟨Nat.le_of_ble_eq_true rfl, Nat.le_of_ble_eq_true rfl⟩) (k_preV (q := (RX4, TX4, 13)) hm1 rfl hR hS hA hE) rfl rfl hl.1 rfl (lv_room (Nat.le_of_ble_eq_true rfl)) dL_law_403 ⟨hz1, hz2⟩) hR hS hA (fun v2 M1 H1 locs1 hv hR hS => ?_)
  obtain ⟨e2, hI⟩ := hv
  refine lv_icmp_eq (tgt := 866) hx hb dL_law_406 (by decide) (fun _ => ?_) (fun z => absurd (e1.trans e2.symm) z)
  refine W.widen (k := cells + 62) (n := slots + 8804) (Nat.le_add_right _ _) (Nat.le_add_right _ _) ?_
  exact kk _ _ _ _ hok hI hR hS
set_option maxHeartbeats 4000000 in
set_option maxRecDepth 100000 in
theorem lc_knows {p : Program} {l : Launch} {e : Env} {s : State} {m : MethodId} {below : List Frame} {meth : Method} {c : Code} {b L : Nat} {xs : Nat → Int32} {G : k_G} {Q : State → Prop} (C0 : lw_At p s m meth c b L xs) (hE : kE G (fun q : Nat => s.heap.size ≤ q) s)
    {x y : Nat} {F : kF} {M : k_M} {H : Heap} {locs : List Loc} {k0 : Int32} {ls : Array Slot} {cells slots : Nat} (h1 : vp_in (k0 + (1 : Int32)) L) (h2 : vp_in (k0 + (2 : Int32)) L) (h3 : vp_in (k0 + (3 : Int32)) L) (h4 : vp_in (k0 + (4 : Int32)) L)
    (hok : okF F) (hI : lI G M x y F F) (hR : kR G M (fun q : Nat => s.heap.size ≤ q) H) (hS : va_S (fun q : Nat => s.heap.size ≤ q) s.heap H locs) (hl : lv_has ls 4 [(0, .ref b), (1, .ref x), (2, .ref y), (3, .int k0)]) (hc1 : cells + 62 ≤ 600000) (hc2 : slots + 8804 ≤ 7302250)
    (kk : ∀ (F1 : kF) (M1 : k_M) (H1 : Heap) (locs1 : List Loc), okF F1 → lI G M1 x y F1 F1 → kR G M1 (fun q : Nat => s.heap.size ≤ q) H1 → va_S (fun q : Nat => s.heap.size ≤ q) s.heap H1 locs1 → W p l e room_1 s m #[Value.ref b] below meth c H1 locs1 (cells + 62) (slots + 8804) Q (F0 m 866 ls [])) :
    W p l e room_1 s m #[Value.ref b] below meth c H locs cells slots Q (F0 m 411 ls []) := by
  obtain ⟨hx, hb, hr, hml, hown0, hts0, hX, hbl, hlocks, hgv⟩ := id C0
  have hts := lw_hts hts0
  have hA : ∀ q : Nat, s.heap.size ≤ q → (fun q : Nat => s.heap.size ≤ q) q := fun _ h => h
  have hbA : ¬ (fun q : Nat => s.heap.size ≤ q) b := Nat.not_le.mpr hbl
  have hown : s.vm.findClass RL = some m.cls := hown0
  have hz1 : cells + 0 ≤ room_1.cells := by show cells + 0 ≤ 600000; omega
  have hz2 : slots + 0 ≤ room_1.slots := by show slots + 0 ≤ 7302250; omega
  have hz3 : cells + 62 ≤ room_1.cells := hc1
  have hz4 : slots + 8804 ≤ room_1.slots := hc2
  have hz5 : cells + 62 + 0 ≤ room_1.cells := hc1
  have hz6 : slots + 8804 + 0 ≤ room_1.slots := hc2
  refine lv_aload_n hx hb dL_law_411 rfl (lv_at hl 1 rfl) ?_
  refine lv_aload_n hx hb dL_law_412 rfl (lv_at hl 0 rfl) ?_
  refine lv_iload_n hx hb dL_law_413 rfl (lv_at hl 3 rfl) ?_
  refine lv_iconst (v := (1 : Int32)) hx hb dL_law_414 (by decide) ?_
  refine lv_iadd hx hb dL_law_415 ?_
  refine va_sld hx hb hX hbl hbA hS h1 dL_law_416 ?_
  refine lv_aload_n hx hb dL_law_417 rfl (lv_at hl 0 rfl) ?_
  refine lv_iload_n hx hb dL_law_418 rfl (lv_at hl 3 rfl) ?_
  refine lv_iconst (v := (2 : Int32)) hx hb dL_law_419 (by decide) ?_
  refine lv_iadd hx hb dL_law_420 ?_
  refine va_sld hx hb hX hbl hbA hS h2 dL_law_421 ?_
  refine lv_aload_n hx hb dL_law_422 rfl (lv_at hl 0 rfl) ?_
  refine lv_iload_n hx hb dL_law_423 rfl (lv_at hl 3 rfl) ?_
  refine lv_iconst (v := (3 : Int32)) hx hb dL_law_424 (by decide) ?_
  refine lv_iadd hx hb dL_law_425 ?_
  refine va_sld hx hb hX hbl hbA hS h3 dL_law_426 ?_
  obtain ⟨fs0, hm0⟩ := hI.cx
  refine k_calli0 (va_runV (As := [.int (xs (k0 + (1 : Int32)).toNatClampNeg), .int (xs (k0 + (2 : Int32)).toNatClampNeg), .int (xs (k0 + (3 : Int32)).toNatClampNeg)]) (rest := []) ⟨hx, hb, hml, hown, hts⟩ (c_X3_knows l G _ _ _ x (xs (k0 + (1 : Int32)).toNatClampNeg) (xs (k0 + (2 : Int32)).toNatClampNeg) (xs (k0 + (3 : Int32)).toNatClampNeg) (l_knows hok hI)) (cwV 3 hts gL_law_X3_knows rfl rfl rfl (by decide +kernel) ⟨Nat.le_of_ble_eq_true rfl, Nat.le_of_ble_eq_true rfl⟩) (k_preV (q := (RX3, TX3, 8)) hm0 rfl hR hS hA hE) rfl rfl hl.1 rfl (lv_room (Nat.le_of_ble_eq_true rfl)) dL_law_427 ⟨hz1, hz2⟩) hR hS hA (fun v1 M0 H0 locs0 hv hR hS => ?_)
  obtain ⟨e1, hI⟩ := hv
  refine lv_aload_n hx hb dL_law_430 rfl (lv_at hl 2 rfl) ?_
  refine lv_aload_n hx hb dL_law_431 rfl (lv_at hl 0 rfl) ?_
  refine lv_iload_n hx hb dL_law_432 rfl (lv_at hl 3 rfl) ?_
  refine lv_iconst (v := (1 : Int32)) hx hb dL_law_433 (by decide) ?_
  refine lv_iadd hx hb dL_law_434 ?_
  refine va_sld hx hb hX hbl hbA hS h1 dL_law_435 ?_
  refine lv_aload_n hx hb dL_law_436 rfl (lv_at hl 0 rfl) ?_
  refine lv_iload_n hx hb dL_law_437 rfl (lv_at hl 3 rfl) ?_
  refine lv_iconst (v := (2 : Int32)) hx hb dL_law_438 (by decide) ?_
  refine lv_iadd hx hb dL_law_439 ?_
  refine va_sld hx hb hX hbl hbA hS h2 dL_law_440 ?_
  refine lv_aload_n hx hb dL_law_441 rfl (lv_at hl 0 rfl) ?_
  refine lv_iload_n hx hb dL_law_442 rfl (lv_at hl 3 rfl) ?_
  refine lv_iconst (v := (3 : Int32)) hx hb dL_law_443 (by decide) ?_
  refine lv_iadd hx hb dL_law_444 ?_
  refine va_sld hx hb hX hbl hbA hS h3 dL_law_445 ?_
  obtain ⟨fs1, hm1⟩ := hI.cy
  refine k_calli0 (va_runV (As := [.int (xs (k0 + (1 : Int32)).toNatClampNeg), .int (xs (k0 + (2 : Int32)).toNatClampNeg), .int (xs (k0 + (3 : Int32)).toNatClampNeg)]) (rest := [.int v1]) ⟨hx, hb, hml, hown, hts⟩ (c_X4_knows l G _ _ _ y (xs (k0 + (1 : Int32)).toNatClampNeg) (xs (k0 + (2 : Int32)).toNatClampNeg) (xs (k0 + (3 : Int32)).toNatClampNeg) (r_knows hok hI)) (cwV 3 hts gL_law_X4_knows rfl rfl rfl (by decide +kernel) ⟨Nat.le_of_ble_eq_true rfl, Nat.le_of_ble_eq_true rfl⟩) (k_preV (q := (RX4, TX4, 13)) hm1 rfl hR hS hA hE) rfl rfl hl.1 rfl (lv_room (Nat.le_of_ble_eq_true rfl)) dL_law_446 ⟨hz1, hz2⟩) hR hS hA (fun v2 M1 H1 locs1 hv hR hS => ?_)
  obtain ⟨e2, hI⟩ := hv
  refine lv_icmp_eq (tgt := 866) hx hb dL_law_449 (by decide) (fun _ => ?_) (fun z => absurd (e1.trans e2.symm) z)
  refine W.widen (k := cells + 62) (n := slots + 8804) (Nat.le_add_right _ _) (Nat.le_add_right _ _) ?_
  exact kk _ _ _ _ hok hI hR hS
set_option maxHeartbeats 4000000 in
set_option maxRecDepth 100000 in
theorem lc_count {p : Program} {l : Launch} {e : Env} {s : State} {m : MethodId} {below : List Frame} {meth : Method} {c : Code} {b L : Nat} {xs : Nat → Int32} {G : k_G} {Q : State → Prop} (C0 : lw_At p s m meth c b L xs) (hE : kE G (fun q : Nat => s.heap.size ≤ q) s)
    {x y : Nat} {F : kF} {M : k_M} {H : Heap} {locs : List Loc} {k0 : Int32} {ls : Array Slot} {cells slots : Nat} (h1 : vp_in (k0 + (1 : Int32)) L) (h2 : vp_in (k0 + (2 : Int32)) L) (h3 : vp_in (k0 + (3 : Int32)) L) (h4 : vp_in (k0 + (4 : Int32)) L)
    (hok : okF F) (hI : lI G M x y F F) (hR : kR G M (fun q : Nat => s.heap.size ≤ q) H) (hS : va_S (fun q : Nat => s.heap.size ≤ q) s.heap H locs) (hl : lv_has ls 4 [(0, .ref b), (1, .ref x), (2, .ref y), (3, .int k0)]) (hc1 : cells + 62 ≤ 600000) (hc2 : slots + 8804 ≤ 7302250)
    (kk : ∀ (F1 : kF) (M1 : k_M) (H1 : Heap) (locs1 : List Loc), okF F1 → lI G M1 x y F1 F1 → kR G M1 (fun q : Nat => s.heap.size ≤ q) H1 → va_S (fun q : Nat => s.heap.size ≤ q) s.heap H1 locs1 → W p l e room_1 s m #[Value.ref b] below meth c H1 locs1 (cells + 62) (slots + 8804) Q (F0 m 866 ls [])) :
    W p l e room_1 s m #[Value.ref b] below meth c H locs cells slots Q (F0 m 454 ls []) := by
  obtain ⟨hx, hb, hr, hml, hown0, hts0, hX, hbl, hlocks, hgv⟩ := id C0
  have hts := lw_hts hts0
  have hA : ∀ q : Nat, s.heap.size ≤ q → (fun q : Nat => s.heap.size ≤ q) q := fun _ h => h
  have hbA : ¬ (fun q : Nat => s.heap.size ≤ q) b := Nat.not_le.mpr hbl
  have hown : s.vm.findClass RL = some m.cls := hown0
  have hz1 : cells + 0 ≤ room_1.cells := by show cells + 0 ≤ 600000; omega
  have hz2 : slots + 0 ≤ room_1.slots := by show slots + 0 ≤ 7302250; omega
  have hz3 : cells + 62 ≤ room_1.cells := hc1
  have hz4 : slots + 8804 ≤ room_1.slots := hc2
  have hz5 : cells + 62 + 0 ≤ room_1.cells := hc1
  have hz6 : slots + 8804 + 0 ≤ room_1.slots := hc2
  refine lv_aload_n hx hb dL_law_454 rfl (lv_at hl 1 rfl) ?_
  refine lv_aload_n hx hb dL_law_455 rfl (lv_at hl 0 rfl) ?_
  refine lv_iload_n hx hb dL_law_456 rfl (lv_at hl 3 rfl) ?_
  refine lv_iconst (v := (1 : Int32)) hx hb dL_law_457 (by decide) ?_
  refine lv_iadd hx hb dL_law_458 ?_
  refine va_sld hx hb hX hbl hbA hS h1 dL_law_459 ?_
  obtain ⟨fs0, hm0⟩ := hI.cx
  refine k_calli0 (va_runV (As := [.int (xs (k0 + (1 : Int32)).toNatClampNeg)]) (rest := []) ⟨hx, hb, hml, hown, hts⟩ (c_X3_count l G _ _ _ x (xs (k0 + (1 : Int32)).toNatClampNeg) (l_count hok hI)) (cwV 1 hts gL_law_X3_count rfl rfl rfl (by decide +kernel) ⟨Nat.le_of_ble_eq_true rfl, Nat.le_of_ble_eq_true rfl⟩) (k_preV (q := (RX3, TX3, 8)) hm0 rfl hR hS hA hE) rfl rfl hl.1 rfl (lv_room (Nat.le_of_ble_eq_true rfl)) dL_law_460 ⟨hz1, hz2⟩) hR hS hA (fun v1 M0 H0 locs0 hv hR hS => ?_)
  obtain ⟨e1, hI⟩ := hv
  refine lv_aload_n hx hb dL_law_463 rfl (lv_at hl 2 rfl) ?_
  refine lv_aload_n hx hb dL_law_464 rfl (lv_at hl 0 rfl) ?_
  refine lv_iload_n hx hb dL_law_465 rfl (lv_at hl 3 rfl) ?_
  refine lv_iconst (v := (1 : Int32)) hx hb dL_law_466 (by decide) ?_
  refine lv_iadd hx hb dL_law_467 ?_
  refine va_sld hx hb hX hbl hbA hS h1 dL_law_468 ?_
  obtain ⟨fs1, hm1⟩ := hI.cy
  refine k_calli0 (va_runV (As := [.int (xs (k0 + (1 : Int32)).toNatClampNeg)]) (rest := [.int v1]) ⟨hx, hb, hml, hown, hts⟩ (c_X4_count l G _ _ _ y (xs (k0 + (1 : Int32)).toNatClampNeg) (r_count hok hI)) (cwV 1 hts gL_law_X4_count rfl rfl rfl (by decide +kernel) ⟨Nat.le_of_ble_eq_true rfl, Nat.le_of_ble_eq_true rfl⟩) (k_preV (q := (RX4, TX4, 13)) hm1 rfl hR hS hA hE) rfl rfl hl.1 rfl (lv_room (Nat.le_of_ble_eq_true rfl)) dL_law_469 ⟨hz1, hz2⟩) hR hS hA (fun v2 M1 H1 locs1 hv hR hS => ?_)
  obtain ⟨e2, hI⟩ := hv
  refine lv_icmp_eq (tgt := 866) hx hb dL_law_472 (by decide) (fun _ => ?_) (fun z => absurd (e1.trans e2.symm) z)
  refine W.widen (k := cells + 62) (n := slots + 8804) (Nat.le_add_right _ _) (Nat.le_add_right _ _) ?_
  exact kk _ _ _ _ hok hI hR hS
set_option maxHeartbeats 4000000 in
set_option maxRecDepth 100000 in
theorem lc_whose {p : Program} {l : Launch} {e : Env} {s : State} {m : MethodId} {below : List Frame} {meth : Method} {c : Code} {b L : Nat} {xs : Nat → Int32} {G : k_G} {Q : State → Prop} (C0 : lw_At p s m meth c b L xs) (hE : kE G (fun q : Nat => s.heap.size ≤ q) s)
    {x y : Nat} {F : kF} {M : k_M} {H : Heap} {locs : List Loc} {k0 : Int32} {ls : Array Slot} {cells slots : Nat} (h1 : vp_in (k0 + (1 : Int32)) L) (h2 : vp_in (k0 + (2 : Int32)) L) (h3 : vp_in (k0 + (3 : Int32)) L) (h4 : vp_in (k0 + (4 : Int32)) L)
    (hok : okF F) (hI : lI G M x y F F) (hR : kR G M (fun q : Nat => s.heap.size ≤ q) H) (hS : va_S (fun q : Nat => s.heap.size ≤ q) s.heap H locs) (hl : lv_has ls 4 [(0, .ref b), (1, .ref x), (2, .ref y), (3, .int k0)]) (hc1 : cells + 62 ≤ 600000) (hc2 : slots + 8804 ≤ 7302250)
    (kk : ∀ (F1 : kF) (M1 : k_M) (H1 : Heap) (locs1 : List Loc), okF F1 → lI G M1 x y F1 F1 → kR G M1 (fun q : Nat => s.heap.size ≤ q) H1 → va_S (fun q : Nat => s.heap.size ≤ q) s.heap H1 locs1 → W p l e room_1 s m #[Value.ref b] below meth c H1 locs1 (cells + 62) (slots + 8804) Q (F0 m 866 ls [])) :
    W p l e room_1 s m #[Value.ref b] below meth c H locs cells slots Q (F0 m 477 ls []) := by
  obtain ⟨hx, hb, hr, hml, hown0, hts0, hX, hbl, hlocks, hgv⟩ := id C0
  have hts := lw_hts hts0
  have hA : ∀ q : Nat, s.heap.size ≤ q → (fun q : Nat => s.heap.size ≤ q) q := fun _ h => h
  have hbA : ¬ (fun q : Nat => s.heap.size ≤ q) b := Nat.not_le.mpr hbl
  have hown : s.vm.findClass RL = some m.cls := hown0
  have hz1 : cells + 0 ≤ room_1.cells := by show cells + 0 ≤ 600000; omega
  have hz2 : slots + 0 ≤ room_1.slots := by show slots + 0 ≤ 7302250; omega
  have hz3 : cells + 62 ≤ room_1.cells := hc1
  have hz4 : slots + 8804 ≤ room_1.slots := hc2
  have hz5 : cells + 62 + 0 ≤ room_1.cells := hc1
  have hz6 : slots + 8804 + 0 ≤ room_1.slots := hc2
  refine lv_aload_n hx hb dL_law_477 rfl (lv_at hl 1 rfl) ?_
  refine lv_aload_n hx hb dL_law_478 rfl (lv_at hl 0 rfl) ?_
  refine lv_iload_n hx hb dL_law_479 rfl (lv_at hl 3 rfl) ?_
  refine lv_iconst (v := (1 : Int32)) hx hb dL_law_480 (by decide) ?_
  refine lv_iadd hx hb dL_law_481 ?_
  refine va_sld hx hb hX hbl hbA hS h1 dL_law_482 ?_
  obtain ⟨fs0, hm0⟩ := hI.cx
  refine k_calli0 (va_runV (As := [.int (xs (k0 + (1 : Int32)).toNatClampNeg)]) (rest := []) ⟨hx, hb, hml, hown, hts⟩ (c_X3_whose l G _ _ _ x (xs (k0 + (1 : Int32)).toNatClampNeg) (l_whose hok hI)) (cwV 1 hts gL_law_X3_whose rfl rfl rfl (by decide +kernel) ⟨Nat.le_of_ble_eq_true rfl, Nat.le_of_ble_eq_true rfl⟩) (k_preV (q := (RX3, TX3, 8)) hm0 rfl hR hS hA hE) rfl rfl hl.1 rfl (lv_room (Nat.le_of_ble_eq_true rfl)) dL_law_483 ⟨hz1, hz2⟩) hR hS hA (fun v1 M0 H0 locs0 hv hR hS => ?_)
  obtain ⟨e1, hI⟩ := hv
  refine lv_aload_n hx hb dL_law_486 rfl (lv_at hl 2 rfl) ?_
  refine lv_aload_n hx hb dL_law_487 rfl (lv_at hl 0 rfl) ?_
  refine lv_iload_n hx hb dL_law_488 rfl (lv_at hl 3 rfl) ?_
  refine lv_iconst (v := (1 : Int32)) hx hb dL_law_489 (by decide) ?_
  refine lv_iadd hx hb dL_law_490 ?_
  refine va_sld hx hb hX hbl hbA hS h1 dL_law_491 ?_
  obtain ⟨fs1, hm1⟩ := hI.cy
  refine k_calli0 (va_runV (As := [.int (xs (k0 + (1 : Int32)).toNatClampNeg)]) (rest := [.int v1]) ⟨hx, hb, hml, hown, hts⟩ (c_X4_whose l G _ _ _ y (xs (k0 + (1 : Int32)).toNatClampNeg) (r_whose hok hI)) (cwV 1 hts gL_law_X4_whose rfl rfl rfl (by decide +kernel) ⟨Nat.le_of_ble_eq_true rfl, Nat.le_of_ble_eq_true rfl⟩) (k_preV (q := (RX4, TX4, 13)) hm1 rfl hR hS hA hE) rfl rfl hl.1 rfl (lv_room (Nat.le_of_ble_eq_true rfl)) dL_law_492 ⟨hz1, hz2⟩) hR hS hA (fun v2 M1 H1 locs1 hv hR hS => ?_)
  obtain ⟨e2, hI⟩ := hv
  refine lv_icmp_eq (tgt := 866) hx hb dL_law_495 (by decide) (fun _ => ?_) (fun z => absurd (e1.trans e2.symm) z)
  refine W.widen (k := cells + 62) (n := slots + 8804) (Nat.le_add_right _ _) (Nat.le_add_right _ _) ?_
  exact kk _ _ _ _ hok hI hR hS
