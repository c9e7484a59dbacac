/-! ===== the law: its calls, 1 ===== -/
set_option maxHeartbeats 4000000 in
set_option maxRecDepth 100000 in
theorem lc_fork {p : Program} {l : Launch} {e : Env} {s : State} {m : MethodId} {below : List Frame} {meth : Method} {c : Code} {b L : Nat} {xs : Nat → Int32} {G : k_G} {Q : State → Prop} (C0 : lw_At p s m meth c b L xs) (hE : kE G (fun q : Nat => s.heap.size ≤ q) s)
    {x y : Nat} {F : kF} {M : k_M} {H : Heap} {locs : List Loc} {k0 : Int32} {ls : Array Slot} {cells slots : Nat} (h1 : vp_in (k0 + (1 : Int32)) L) (h2 : vp_in (k0 + (2 : Int32)) L) (h3 : vp_in (k0 + (3 : Int32)) L) (h4 : vp_in (k0 + (4 : Int32)) L)
    (hok : okF F) (hI : lI G M x y F F) (hR : kR G M (fun q : Nat => s.heap.size ≤ q) H) (hS : va_S (fun q : Nat => s.heap.size ≤ q) s.heap H locs) (hl : lv_has ls 4 [(0, .ref b), (1, .ref x), (2, .ref y), (3, .int k0)]) (hc1 : cells + 62 ≤ 600000) (hc2 : slots + 8804 ≤ 7302250)
    (kk : ∀ (F1 : kF) (M1 : k_M) (H1 : Heap) (locs1 : List Loc), okF F1 → lI G M1 x y F1 F1 → kR G M1 (fun q : Nat => s.heap.size ≤ q) H1 → va_S (fun q : Nat => s.heap.size ≤ q) s.heap H1 locs1 → W p l e room_1 s m #[Value.ref b] below meth c H1 locs1 (cells + 62) (slots + 8804) Q (F0 m 866 ls [])) :
    W p l e room_1 s m #[Value.ref b] below meth c H locs cells slots Q (F0 m 144 ls []) := by
  obtain ⟨hx, hb, hr, hml, hown0, hts0, hX, hbl, hlocks, hgv⟩ := id C0
  have hts := lw_hts hts0
  have hA : ∀ q : Nat, s.heap.size ≤ q → (fun q : Nat => s.heap.size ≤ q) q := fun _ h => h
  have hbA : ¬ (fun q : Nat => s.heap.size ≤ q) b := Nat.not_le.mpr hbl
  have hown : s.vm.findClass RL = some m.cls := hown0
  have hz1 : cells + 0 ≤ room_1.cells := by show cells + 0 ≤ 600000; omega
  have hz2 : slots + 0 ≤ room_1.slots := by show slots + 0 ≤ 7302250; omega
  have hz3 : cells + 62 ≤ room_1.cells := hc1
  have hz4 : slots + 8804 ≤ room_1.slots := hc2
  have hz5 : cells + 62 + 0 ≤ room_1.cells := hc1
  have hz6 : slots + 8804 + 0 ≤ room_1.slots := hc2
  refine lv_aload_n hx hb dL_law_144 rfl (lv_at hl 1 rfl) ?_
  refine lv_aload_n hx hb dL_law_145 rfl (lv_at hl 0 rfl) ?_
  refine lv_iload_n hx hb dL_law_146 rfl (lv_at hl 3 rfl) ?_
  refine lv_iconst (v := (1 : Int32)) hx hb dL_law_147 (by decide) ?_
  refine lv_iadd hx hb dL_law_148 ?_
  refine va_sld hx hb hX hbl hbA hS h1 dL_law_149 ?_
  obtain ⟨fs0, hm0⟩ := hI.cx
  refine k_calli0 (va_runV (As := [.int (xs (k0 + (1 : Int32)).toNatClampNeg)]) (rest := []) ⟨hx, hb, hml, hown, hts⟩ (c_X3_fork l G _ _ _ x (xs (k0 + (1 : Int32)).toNatClampNeg) (l_fork hok hI)) (cwV 1 hts gL_law_X3_fork rfl rfl rfl (by decide +kernel) ⟨Nat.le_of_ble_eq_true rfl, Nat.le_of_ble_eq_true rfl⟩) (k_preV (q := (RX3, TX3, 8)) hm0 rfl hR hS hA hE) rfl rfl hl.1 rfl (lv_room (Nat.le_of_ble_eq_true rfl)) dL_law_150 ⟨hz1, hz2⟩) hR hS hA (fun v1 M0 H0 locs0 hv hR hS => ?_)
  obtain ⟨e1, hI⟩ := hv
  refine lv_aload_n hx hb dL_law_153 rfl (lv_at hl 2 rfl) ?_
  refine lv_aload_n hx hb dL_law_154 rfl (lv_at hl 0 rfl) ?_
  refine lv_iload_n hx hb dL_law_155 rfl (lv_at hl 3 rfl) ?_
  refine lv_iconst (v := (1 : Int32)) hx hb dL_law_156 (by decide) ?_
  refine lv_iadd hx hb dL_law_157 ?_
  refine va_sld hx hb hX hbl hbA hS h1 dL_law_158 ?_
  obtain ⟨fs1, hm1⟩ := hI.cy
  refine k_calli0 (va_runV (As := [.int (xs (k0 + (1 : Int32)).toNatClampNeg)]) (rest := [.int v1]) ⟨hx, hb, hml, hown, hts⟩ (c_X4_fork l G _ _ _ y (xs (k0 + (1 : Int32)).toNatClampNeg) (r_fork hok hI)) (cwV 1 hts gL_law_X4_fork rfl rfl rfl (by decide +kernel) ⟨Nat.le_of_ble_eq_true rfl, Nat.le_of_ble_eq_true rfl⟩) (k_preV (q := (RX4, TX4, 13)) hm1 rfl hR hS hA hE) rfl rfl hl.1 rfl (lv_room (Nat.le_of_ble_eq_true rfl)) dL_law_159 ⟨hz1, hz2⟩) hR hS hA (fun v2 M1 H1 locs1 hv hR hS => ?_)
  obtain ⟨e2, hI⟩ := hv
  refine lv_icmp_eq (tgt := 866) hx hb dL_law_162 (by decide) (fun _ => ?_) (fun z => absurd (e1.trans e2.symm) z)
  refine W.widen (k := cells + 62) (n := slots + 8804) (Nat.le_add_right _ _) (Nat.le_add_right _ _) ?_
  exact kk _ _ _ _ (ok_fork hok _) hI hR hS
set_option maxHeartbeats 4000000 in
set_option maxRecDepth 100000 in
theorem lc_gather {p : Program} {l : Launch} {e : Env} {s : State} {m : MethodId} {below : List Frame} {meth : Method} {c : Code} {b L : Nat} {xs : Nat → Int32} {G : k_G} {Q : State → Prop} (C0 : lw_At p s m meth c b L xs) (hE : kE G (fun q : Nat => s.heap.size ≤ q) s)
    {x y : Nat} {F : kF} {M : k_M} {H : Heap} {locs : List Loc} {k0 : Int32} {ls : Array Slot} {cells slots : Nat} (h1 : vp_in (k0 + (1 : Int32)) L) (h2 : vp_in (k0 + (2 : Int32)) L) (h3 : vp_in (k0 + (3 : Int32)) L) (h4 : vp_in (k0 + (4 : Int32)) L)
    (hok : okF F) (hI : lI G M x y F F) (hR : kR G M (fun q : Nat => s.heap.size ≤ q) H) (hS : va_S (fun q : Nat => s.heap.size ≤ q) s.heap H locs) (hl : lv_has ls 4 [(0, .ref b), (1, .ref x), (2, .ref y), (3, .int k0)]) (hc1 : cells + 62 ≤ 600000) (hc2 : slots + 8804 ≤ 7302250)
    (kk : ∀ (F1 : kF) (M1 : k_M) (H1 : Heap) (locs1 : List Loc), okF F1 → lI G M1 x y F1 F1 → kR G M1 (fun q : Nat => s.heap.size ≤ q) H1 → va_S (fun q : Nat => s.heap.size ≤ q) s.heap H1 locs1 → W p l e room_1 s m #[Value.ref b] below meth c H1 locs1 (cells + 62) (slots + 8804) Q (F0 m 866 ls [])) :
    W p l e room_1 s m #[Value.ref b] below meth c H locs cells slots Q (F0 m 167 ls []) := by
  obtain ⟨hx, hb, hr, hml, hown0, hts0, hX, hbl, hlocks, hgv⟩ := id C0
  have hts := lw_hts hts0
  have hA : ∀ q : Nat, s.heap.size ≤ q → (fun q : Nat => s.heap.size ≤ q) q := fun _ h => h
  have hbA : ¬ (fun q : Nat => s.heap.size ≤ q) b := Nat.not_le.mpr hbl
  have hown : s.vm.findClass RL = some m.cls := hown0
  have hz1 : cells + 0 ≤ room_1.cells := by show cells + 0 ≤ 600000; omega
  have hz2 : slots + 0 ≤ room_1.slots := by show slots + 0 ≤ 7302250; omega
  have hz3 : cells + 62 ≤ room_1.cells := hc1
  have hz4 : slots + 8804 ≤ room_1.slots := hc2
  have hz5 : cells + 62 + 0 ≤ room_1.cells := hc1
  have hz6 : slots + 8804 + 0 ≤ room_1.slots := hc2
  refine lv_aload_n hx hb dL_law_167 rfl (lv_at hl 1 rfl) ?_
  refine lv_aload_n hx hb dL_law_168 rfl (lv_at hl 0 rfl) ?_
  refine lv_iload_n hx hb dL_law_169 rfl (lv_at hl 3 rfl) ?_
  refine lv_iconst (v := (1 : Int32)) hx hb dL_law_170 (by decide) ?_
  refine lv_iadd hx hb dL_law_171 ?_
  refine va_sld hx hb hX hbl hbA hS h1 dL_law_172 ?_
  refine lv_aload_n hx hb dL_law_173 rfl (lv_at hl 0 rfl) ?_
  refine lv_iload_n hx hb dL_law_174 rfl (lv_at hl 3 rfl) ?_
  refine lv_iconst (v := (2 : Int32)) hx hb dL_law_175 (by decide) ?_
  refine lv_iadd hx hb dL_law_176 ?_
  refine va_sld hx hb hX hbl hbA hS h2 dL_law_177 ?_
  obtain ⟨fs0, hm0⟩ := hI.cx
  refine k_calli0 (va_runV (As := [.int (xs (k0 + (1 : Int32)).toNatClampNeg), .int (xs (k0 + (2 : Int32)).toNatClampNeg)]) (rest := []) ⟨hx, hb, hml, hown, hts⟩ (c_X3_gather l G _ _ _ x (xs (k0 + (1 : Int32)).toNatClampNeg) (xs (k0 + (2 : Int32)).toNatClampNeg) (l_gather hok hI)) (cwV 2 hts gL_law_X3_gather rfl rfl rfl (by decide +kernel) ⟨Nat.le_of_ble_eq_true rfl, Nat.le_of_ble_eq_true rfl⟩) (k_preV (q := (RX3, TX3, 8)) hm0 rfl hR hS hA hE) rfl rfl hl.1 rfl (lv_room (Nat.le_of_ble_eq_true rfl)) dL_law_178 ⟨hz1, hz2⟩) hR hS hA (fun v1 M0 H0 locs0 hv hR hS => ?_)
  obtain ⟨e1, hI⟩ := hv
  refine lv_aload_n hx hb dL_law_181 rfl (lv_at hl 2 rfl) ?_
  refine lv_aload_n hx hb dL_law_182 rfl (lv_at hl 0 rfl) ?_
  refine lv_iload_n hx hb dL_law_183 rfl (lv_at hl 3 rfl) ?_
  refine lv_iconst (v := (1 : Int32)) hx hb dL_law_184 (by decide) ?_
  refine lv_iadd hx hb dL_law_185 ?_
  refine va_sld hx hb hX hbl hbA hS h1 dL_law_186 ?_
  refine lv_aload_n hx hb dL_law_187 rfl (lv_at hl 0 rfl) ?_
  refine lv_iload_n hx hb dL_law_188 rfl (lv_at hl 3 rfl) ?_
  refine lv_iconst (v := (2 : Int32)) hx hb dL_law_189 (by decide) ?_
  refine lv_iadd hx hb dL_law_190 ?_
  refine va_sld hx hb hX hbl hbA hS h2 dL_law_191 ?_
  obtain ⟨fs1, hm1⟩ := hI.cy
  refine k_calli0 (va_runV (As := [.int (xs (k0 + (1 : Int32)).toNatClampNeg), .int (xs (k0 + (2 : Int32)).toNatClampNeg)]) (rest := [.int v1]) ⟨hx, hb, hml, hown, hts⟩ (c_X4_gather l G _ _ _ y (xs (k0 + (1 : Int32)).toNatClampNeg) (xs (k0 + (2 : Int32)).toNatClampNeg) (r_gather hok hI)) (cwV 2 hts gL_law_X4_gather rfl rfl rfl (by decide +kernel) ⟨Nat.le_of_ble_eq_true rfl, Nat.le_of_ble_eq_true rfl⟩) (k_preV (q := (RX4, TX4, 13)) hm1 rfl hR hS hA hE) rfl rfl hl.1 rfl (lv_room (Nat.le_of_ble_eq_true rfl)) dL_law_192 ⟨hz1, hz2⟩) hR hS hA (fun v2 M1 H1 locs1 hv hR hS => ?_)
  obtain ⟨e2, hI⟩ := hv
  refine lv_icmp_eq (tgt := 866) hx hb dL_law_195 (by decide) (fun _ => ?_) (fun z => absurd (e1.trans e2.symm) z)
  refine W.widen (k := cells + 62) (n := slots + 8804) (Nat.le_add_right _ _) (Nat.le_add_right _ _) ?_
  exact kk _ _ _ _ (ok_gather hok _ _) hI hR hS
set_option maxHeartbeats 4000000 in
set_option maxRecDepth 100000 in
theorem lc_event {p : Program} {l : Launch} {e : Env} {s : State} {m : MethodId} {below : List Frame} {meth : Method} {c : Code} {b L : Nat} {xs : Nat → Int32} {G : k_G} {Q : State → Prop} (C0 : lw_At p s m meth c b L xs) (hE : kE G (fun q : Nat => s.heap.size ≤ q) s)
    {x y : Nat} {F : kF} {M : k_M} {H : Heap} {locs : List Loc} {k0 : Int32} {ls : Array Slot} {cells slots : Nat} (h1 : vp_in (k0 + (1 : Int32)) L) (h2 : vp_in (k0 + (2 : Int32)) L) (h3 : vp_in (k0 + (3 : Int32)) L) (h4 : vp_in (k0 + (4 : Int32)) L)
    (hok : okF F) (hI : lI G M x y F F) (hR : kR G M (fun q : Nat => s.heap.size ≤ q) H) (hS : va_S (fun q : Nat => s.heap.size ≤ q) s.heap H locs) (hl : lv_has ls 4 [(0, .ref b), (1, .ref x), (2, .ref y), (3, .int k0)]) (hc1 : cells + 62 ≤ 600000) (hc2 : slots + 8804 ≤ 7302250)
    (kk : ∀ (F1 : kF) (M1 : k_M) (H1 : Heap) (locs1 : List Loc), okF F1 → lI G M1 x y F1 F1 → kR G M1 (fun q : Nat => s.heap.size ≤ q) H1 → va_S (fun q : Nat => s.heap.size ≤ q) s.heap H1 locs1 → W p l e room_1 s m #[Value.ref b] below meth c H1 locs1 (cells + 62) (slots + 8804) Q (F0 m 866 ls [])) :
    W p l e room_1 s m #[Value.ref b] below meth c H locs cells slots Q (F0 m 200 ls []) := by
  obtain ⟨hx, hb, hr, hml, hown0, hts0, hX, hbl, hlocks, hgv⟩ := id C0
  have hts := lw_hts hts0
  have hA : ∀ q : Nat, s.heap.size ≤ q → (fun q : Nat => s.heap.size ≤ q) q := fun _ h => h
  have hbA : ¬ (fun q : Nat => s.heap.size ≤ q) b := Nat.not_le.mpr hbl
  have hown : s.vm.findClass RL = some m.cls := hown0
  have hz1 : cells + 0 ≤ room_1.cells := by show cells + 0 ≤ 600000; omega
  have hz2 : slots + 0 ≤ room_1.slots := by show slots + 0 ≤ 7302250; omega
  have hz3 : cells + 62 ≤ room_1.cells := hc1
  have hz4 : slots + 8804 ≤ room_1.slots := hc2
  have hz5 : cells + 62 + 0 ≤ room_1.cells := hc1
  have hz6 : slots + 8804 + 0 ≤ room_1.slots := hc2
  refine lv_aload_n hx hb dL_law_200 rfl (lv_at hl 1 rfl) ?_
  refine lv_aload_n hx hb dL_law_201 rfl (lv_at hl 0 rfl) ?_
  refine lv_iload_n hx hb dL_law_202 rfl (lv_at hl 3 rfl) ?_
  refine lv_iconst (v := (1 : Int32)) hx hb dL_law_203 (by decide) ?_
  refine lv_iadd hx hb dL_law_204 ?_
  refine va_sld hx hb hX hbl hbA hS h1 dL_law_205 ?_
  obtain ⟨fs0, hm0⟩ := hI.cx
  refine k_calli0 (va_runV (As := [.int (xs (k0 + (1 : Int32)).toNatClampNeg)]) (rest := []) ⟨hx, hb, hml, hown, hts⟩ (c_X3_event l G _ _ _ x (xs (k0 + (1 : Int32)).toNatClampNeg) (l_event hok hI)) (cwV 1 hts gL_law_X3_event rfl rfl rfl (by decide +kernel) ⟨Nat.le_of_ble_eq_true rfl, Nat.le_of_ble_eq_true rfl⟩) (k_preV (q := (RX3, TX3, 8)) hm0 rfl hR hS hA hE) rfl rfl hl.1 rfl (lv_room (Nat.le_of_ble_eq_true rfl)) dL_law_206 ⟨hz1, hz2⟩) hR hS hA (fun v1 M0 H0 locs0 hv hR hS => ?_)
  obtain ⟨e1, hI⟩ := hv
  refine lv_aload_n hx hb dL_law_209 rfl (lv_at hl 2 rfl) ?_
  refine lv_aload_n hx hb dL_law_210 rfl (lv_at hl 0 rfl) ?_
  refine lv_iload_n hx hb dL_law_211 rfl (lv_at hl 3 rfl) ?_
  refine lv_iconst (v := (1 : Int32)) hx hb dL_law_212 (by decide) ?_
  refine lv_iadd hx hb dL_law_213 ?_
  refine va_sld hx hb hX hbl hbA hS h1 dL_law_214 ?_
  obtain ⟨fs1, hm1⟩ := hI.cy
  refine k_calli0 (va_runV (As := [.int (xs (k0 + (1 : Int32)).toNatClampNeg)]) (rest := [.int v1]) ⟨hx, hb, hml, hown, hts⟩ (c_X4_event l G _ _ _ y (xs (k0 + (1 : Int32)).toNatClampNeg) (r_event hok hI)) (cwV 1 hts gL_law_X4_event rfl rfl rfl (by decide +kernel) ⟨Nat.le_of_ble_eq_true rfl, Nat.le_of_ble_eq_true rfl⟩) (k_preV (q := (RX4, TX4, 13)) hm1 rfl hR hS hA hE) rfl rfl hl.1 rfl (lv_room (Nat.le_of_ble_eq_true rfl)) dL_law_215 ⟨hz1, hz2⟩) hR hS hA (fun v2 M1 H1 locs1 hv hR hS => ?_)
  obtain ⟨e2, hI⟩ := hv
  refine lv_icmp_eq (tgt := 866) hx hb dL_law_218 (by decide) (fun _ => ?_) (fun z => absurd (e1.trans e2.symm) z)
  refine W.widen (k := cells + 62) (n := slots + 8804) (Nat.le_add_right _ _) (Nat.le_add_right _ _) ?_
  exact kk _ _ _ _ (ok_event hok _) hI hR hS
set_option maxHeartbeats 4000000 in
set_option maxRecDepth 100000 in
theorem lc_send {p : Program} {l : Launch} {e : Env} {s : State} {m : MethodId} {below : List Frame} {meth : Method} {c : Code} {b L : Nat} {xs : Nat → Int32} {G : k_G} {Q : State → Prop} (C0 : lw_At p s m meth c b L xs) (hE : kE G (fun q : Nat => s.heap.size ≤ q) s)
    {x y : Nat} {F : kF} {M : k_M} {H : Heap} {locs : List Loc} {k0 : Int32} {ls : Array Slot} {cells slots : Nat} (h1 : vp_in (k0 + (1 : Int32)) L) (h2 : vp_in (k0 + (2 : Int32)) L) (h3 : vp_in (k0 + (3 : Int32)) L) (h4 : vp_in (k0 + (4 : Int32)) L)
    (hok : okF F) (hI : lI G M x y F F) (hR : kR G M (fun q : Nat => s.heap.size ≤ q) H) (hS : va_S (fun q : Nat => s.heap.size ≤ q) s.heap H locs) (hl : lv_has ls 4 [(0, .ref b), (1, .ref x), (2, .ref y), (3, .int k0)]) (hc1 : cells + 62 ≤ 600000) (hc2 : slots + 8804 ≤ 7302250)
    (kk : ∀ (F1 : kF) (M1 : k_M) (H1 : Heap) (locs1 : List Loc), okF F1 → lI G M1 x y F1 F1 → kR G M1 (fun q : Nat => s.heap.size ≤ q) H1 → va_S (fun q : Nat => s.heap.size ≤ q) s.heap H1 locs1 → W p l e room_1 s m #[Value.ref b] below meth c H1 locs1 (cells + 62) (slots + 8804) Q (F0 m 866 ls [])) :
    W p l e room_1 s m #[Value.ref b] below meth c H locs cells slots Q (F0 m 223 ls []) := by
  obtain ⟨hx, hb, hr, hml, hown0, hts0, hX, hbl, hlocks, hgv⟩ := id C0
  have hts := lw_hts hts0
  have hA : ∀ q : Nat, s.heap.size ≤ q → (fun q : Nat => s.heap.size ≤ q) q := fun _ h => h
  have hbA : ¬ (fun q : Nat => s.heap.size ≤ q) b := Nat.not_le.mpr hbl
  have hown : s.vm.findClass RL = some m.cls := hown0
  have hz1 : cells + 0 ≤ room_1.cells := by show cells + 0 ≤ 600000; omega
  have hz2 : slots + 0 ≤ room_1.slots := by show slots + 0 ≤ 7302250; omega
  have hz3 : cells + 62 ≤ room_1.cells := hc1
  have hz4 : slots + 8804 ≤ room_1.slots := hc2
  have hz5 : cells + 62 + 0 ≤ room_1.cells := hc1
  have hz6 : slots + 8804 + 0 ≤ room_1.slots := hc2
  refine lv_aload_n hx hb dL_law_223 rfl (lv_at hl 1 rfl) ?_
  refine lv_aload_n hx hb dL_law_224 rfl (lv_at hl 0 rfl) ?_
  refine lv_iload_n hx hb dL_law_225 rfl (lv_at hl 3 rfl) ?_
  refine lv_iconst (v := (1 : Int32)) hx hb dL_law_226 (by decide) ?_
  refine lv_iadd hx hb dL_law_227 ?_
  refine va_sld hx hb hX hbl hbA hS h1 dL_law_228 ?_
  obtain ⟨fs0, hm0⟩ := hI.cx
  refine k_calli0 (va_runV (As := [.int (xs (k0 + (1 : Int32)).toNatClampNeg)]) (rest := []) ⟨hx, hb, hml, hown, hts⟩ (c_X3_send l G _ _ _ x (xs (k0 + (1 : Int32)).toNatClampNeg) (l_send hok hI)) (cwV 1 hts gL_law_X3_send rfl rfl rfl (by decide +kernel) ⟨Nat.le_of_ble_eq_true rfl, Nat.le_of_ble_eq_true rfl⟩) (k_preV (q := (RX3, TX3, 8)) hm0 rfl hR hS hA hE) rfl rfl hl.1 rfl (lv_room (Nat.le_of_ble_eq_true rfl)) dL_law_229 ⟨hz1, hz2⟩) hR hS hA (fun v1 M0 H0 locs0 hv hR hS => ?_)
  obtain ⟨e1, hI⟩ := hv
  refine lv_aload_n hx hb dL_law_232 rfl (lv_at hl 2 rfl) ?_
  refine lv_aload_n hx hb dL_law_233 rfl (lv_at hl 0 rfl) ?_
  refine lv_iload_n hx hb dL_law_234 rfl (lv_at hl 3 rfl) ?_
  refine lv_iconst (v := (1 : Int32)) hx hb dL_law_235 (by decide) ?_
  refine lv_iadd hx hb dL_law_236 ?_
  refine va_sld hx hb hX hbl hbA hS h1 dL_law_237 ?_
  obtain ⟨fs1, hm1⟩ := hI.cy
  refine k_calli0 (va_runV (As := [.int (xs (k0 + (1 : Int32)).toNatClampNeg)]) (rest := [.int v1]) ⟨hx, hb, hml, hown, hts⟩ (c_X4_send l G _ _ _ y (xs (k0 + (1 : Int32)).toNatClampNeg) (r_send hok hI)) (cwV 1 hts gL_law_X4_send rfl rfl rfl (by decide +kernel) ⟨Nat.le_of_ble_eq_true rfl, Nat.le_of_ble_eq_true rfl⟩) (k_preV (q := (RX4, TX4, 13)) hm1 rfl hR hS hA hE) rfl rfl hl.1 rfl (lv_room (Nat.le_of_ble_eq_true rfl)) dL_law_238 ⟨hz1, hz2⟩) hR hS hA (fun v2 M1 H1 locs1 hv hR hS => ?_)
  obtain ⟨e2, hI⟩ := hv
  refine lv_icmp_eq (tgt := 866) hx hb dL_law_241 (by decide) (fun _ => ?_) (fun z => absurd (e1.trans e2.symm) z)
  refine W.widen (k := cells + 62) (n := slots + 8804) (Nat.le_add_right _ _) (Nat.le_add_right _ _) ?_
  exact kk _ _ _ _ (ok_send hok _) hI hR hS
set_option maxHeartbeats 4000000 in
set_option maxRecDepth 100000 in
theorem lc_receive {p : Program} {l : Launch} {e : Env} {s : State} {m : MethodId} {below : List Frame} {meth : Method} {c : Code} {b L : Nat} {xs : Nat → Int32} {G : k_G} {Q : State → Prop} (C0 : lw_At p s m meth c b L xs) (hE : kE G (fun q : Nat => s.heap.size ≤ q) s)
    {x y : Nat} {F : kF} {M : k_M} {H : Heap} {locs : List Loc} {k0 : Int32} {ls : Array Slot} {cells slots : Nat} (h1 : vp_in (k0 + (1 : Int32)) L) (h2 : vp_in (k0 + (2 : Int32)) L) (h3 : vp_in (k0 + (3 : Int32)) L) (h4 : vp_in (k0 + (4 : Int32)) L)
    (hok : okF F) (hI : lI G M x y F F) (hR : kR G M (fun q : Nat => s.heap.size ≤ q) H) (hS : va_S (fun q : Nat => s.heap.size ≤ q) s.heap H locs) (hl : lv_has ls 4 [(0, .ref b), (1, .ref x), (2, .ref y), (3, .int k0)]) (hc1 : cells + 62 ≤ 600000) (hc2 : slots + 8804 ≤ 7302250)
    (kk : ∀ (F1 : kF) (M1 : k_M) (H1 : Heap) (locs1 : List Loc), okF F1 → lI G M1 x y F1 F1 → kR G M1 (fun q : Nat => s.heap.size ≤ q) H1 → va_S (fun q : Nat => s.heap.size ≤ q) s.heap H1 locs1 → W p l e room_1 s m #[Value.ref b] below meth c H1 locs1 (cells + 62) (slots + 8804) Q (F0 m 866 ls [])) :
    W p l e room_1 s m #[Value.ref b] below meth c H locs cells slots Q (F0 m 246 ls []) := by
  obtain ⟨hx, hb, hr, hml, hown0, hts0, hX, hbl, hlocks, hgv⟩ := id C0
  have hts := lw_hts hts0
  have hA : ∀ q : Nat, s.heap.size ≤ q → (fun q : Nat => s.heap.size ≤ q) q := fun _ h => h
  have hbA : ¬ (fun q : Nat => s.heap.size ≤ q) b := Nat.not_le.mpr hbl
  have hown : s.vm.findClass RL = some m.cls := hown0
  have hz1 : cells + 0 ≤ room_1.cells := by show cells + 0 ≤ 600000; omega
  have hz2 : slots + 0 ≤ room_1.slots := by show slots + 0 ≤ 7302250; omega
  have hz3 : cells + 62 ≤ room_1.cells := hc1
  have hz4 : slots + 8804 ≤ room_1.slots := hc2
  have hz5 : cells + 62 + 0 ≤ room_1.cells := hc1
  have hz6 : slots + 8804 + 0 ≤ room_1.slots := hc2
  refine lv_aload_n hx hb dL_law_246 rfl (lv_at hl 1 rfl) ?_
  refine lv_aload_n hx hb dL_law_247 rfl (lv_at hl 0 rfl) ?_
  refine lv_iload_n hx hb dL_law_248 rfl (lv_at hl 3 rfl) ?_
  refine lv_iconst (v := (1 : Int32)) hx hb dL_law_249 (by decide) ?_
  refine lv_iadd hx hb dL_law_250 ?_
  refine va_sld hx hb hX hbl hbA hS h1 dL_law_251 ?_
  refine lv_aload_n hx hb dL_law_252 rfl (lv_at hl 0 rfl) ?_
  refine lv_iload_n hx hb dL_law_253 rfl (lv_at hl 3 rfl) ?_
  refine lv_iconst (v := (2 : Int32)) hx hb dL_law_254 (by decide) ?_
  refine lv_iadd hx hb dL_law_255 ?_
  refine va_sld hx hb hX hbl hbA hS h2 dL_law_256 ?_
  obtain ⟨fs0, hm0⟩ := hI.cx
  refine k_calli0 (va_runV (As := [.int (xs (k0 + (1 : Int32)).toNatClampNeg), .int (xs (k0 + (2 : Int32)).toNatClampNeg)]) (rest := []) ⟨hx, hb, hml, hown, hts⟩ (c_X3_receive l G _ _ _ x (xs (k0 + (1 : Int32)).toNatClampNeg) (xs (k0 + (2 : Int32)).toNatClampNeg) (l_receive hok hI)) (cwV 2 hts gL_law_X3_receive rfl rfl rfl (by decide +kernel) ⟨Nat.le_of_ble_eq_true rfl, Nat.le_of_ble_eq_true rfl⟩) (k_preV (q := (RX3, TX3, 8)) hm0 rfl hR hS hA hE) rfl rfl hl.1 rfl (lv_room (Nat.le_of_ble_eq_true rfl)) dL_law_257 ⟨hz1, hz2⟩) hR hS hA (fun v1 M0 H0 locs0 hv hR hS => ?_)
  obtain ⟨e1, hI⟩ := hv
  refine lv_aload_n hx hb dL_law_260 rfl (lv_at hl 2 rfl) ?_
  refine lv_aload_n hx hb dL_law_261 rfl (lv_at hl 0 rfl) ?_
  refine lv_iload_n hx hb dL_law_262 rfl (lv_at hl 3 rfl) ?_
  refine lv_iconst (v := (1 : Int32)) hx hb dL_law_263 (by decide) ?_
  refine lv_iadd hx hb dL_law_264 ?_
  refine va_sld hx hb hX hbl hbA hS h1 dL_law_265 ?_
  refine lv_aload_n hx hb dL_law_266 rfl (lv_at hl 0 rfl) ?_
  refine lv_iload_n hx hb dL_law_267 rfl (lv_at hl 3 rfl) ?_
  refine lv_iconst (v := (2 : Int32)) hx hb dL_law_268 (by decide) ?_
  refine lv_iadd hx hb dL_law_269 ?_
  refine va_sld hx hb hX hbl hbA hS h2 dL_law_270 ?_
  obtain ⟨fs1, hm1⟩ := hI.cy
  refine k_calli0 (va_runV (As := [.int (xs (k0 + (1 : Int32)).toNatClampNeg), .int (xs (k0 + (2 : Int32)).toNatClampNeg)]) (rest := [.int v1]) ⟨hx, hb, hml, hown, hts⟩ (c_X4_receive l G _ _ _ y (xs (k0 + (1 : Int32)).toNatClampNeg) (xs (k0 + (2 : Int32)).toNatClampNeg) (r_receive hok hI)) (cwV 2 hts gL_law_X4_receive rfl rfl rfl (by decide +kernel) ⟨Nat.le_of_ble_eq_true rfl, Nat.le_of_ble_eq_true rfl⟩) (k_preV (q := (RX4, TX4, 13)) hm1 rfl hR hS hA hE) rfl rfl hl.1 rfl (lv_room (Nat.le_of_ble_eq_true rfl)) dL_law_271 ⟨hz1, hz2⟩) hR hS hA (fun v2 M1 H1 locs1 hv hR hS => ?_)
  obtain ⟨e2, hI⟩ := hv
  refine lv_icmp_eq (tgt := 866) hx hb dL_law_274 (by decide) (fun _ => ?_) (fun z => absurd (e1.trans e2.symm) z)
  refine W.widen (k := cells + 62) (n := slots + 8804) (Nat.le_add_right _ _) (Nat.le_add_right _ _) ?_
  exact kk _ _ _ _ (ok_receive hok _ _) hI hR hS
set_option maxHeartbeats 4000000 in
set_option maxRecDepth 100000 in
theorem lc_drop {p : Program} {l : Launch} {e : Env} {s : State} {m : MethodId} {below : List Frame} {meth : Method} {c : Code} {b L : Nat} {xs : Nat → Int32} {G : k_G} {Q : State → Prop} (C0 : lw_At p s m meth c b L xs) (hE : kE G (fun q : Nat => s.heap.size ≤ q) s)
    {x y : Nat} {F : kF} {M : k_M} {H : Heap} {locs : List Loc} {k0 : Int32} {ls : Array Slot} {cells slots : Nat} (h1 : vp_in (k0 + (1 : Int32)) L) (h2 : vp_in (k0 + (2 : Int32)) L) (h3 : vp_in (k0 + (3 : Int32)) L) (h4 : vp_in (k0 + (4 : Int32)) L)
    (hok : okF F) (hI : lI G M x y F F) (hR : kR G M (fun q : Nat => s.heap.size ≤ q) H) (hS : va_S (fun q : Nat => s.heap.size ≤ q) s.heap H locs) (hl : lv_has ls 4 [(0, .ref b), (1, .ref x), (2, .ref y), (3, .int k0)]) (hc1 : cells + 62 ≤ 600000) (hc2 : slots + 8804 ≤ 7302250)
    (kk : ∀ (F1 : kF) (M1 : k_M) (H1 : Heap) (locs1 : List Loc), okF F1 → lI G M1 x y F1 F1 → kR G M1 (fun q : Nat => s.heap.size ≤ q) H1 → va_S (fun q : Nat => s.heap.size ≤ q) s.heap H1 locs1 → W p l e room_1 s m #[Value.ref b] below meth c H1 locs1 (cells + 62) (slots + 8804) Q (F0 m 866 ls [])) :
    W p l e room_1 s m #[Value.ref b] below meth c H locs cells slots Q (F0 m 279 ls []) := by
  obtain ⟨hx, hb, hr, hml, hown0, hts0, hX, hbl, hlocks, hgv⟩ := id C0
  have hts := lw_hts hts0
  have hA : ∀ q : Nat, s.heap.size ≤ q → (fun q : Nat => s.heap.size ≤ q) q := fun _ h => h
  have hbA : ¬ (fun q : Nat => s.heap.size ≤ q) b := Nat.not_le.mpr hbl
  have hown : s.vm.findClass RL = some m.cls := hown0
  have hz1 : cells + 0 ≤ room_1.cells := by show cells + 0 ≤ 600000; omega
  have hz2 : slots + 0 ≤ room_1.slots := by show slots + 0 ≤ 7302250; omega
  have hz3 : cells + 62 ≤ room_1.cells := hc1
  have hz4 : slots + 8804 ≤ room_1.slots := hc2
  have hz5 : cells + 62 + 0 ≤ room_1.cells := hc1
  have hz6 : slots + 8804 + 0 ≤ room_1.slots := hc2
  refine lv_aload_n hx hb dL_law_279 rfl (lv_at hl 1 rfl) ?_
  refine lv_aload_n hx hb dL_law_280 rfl (lv_at hl 0 rfl) ?_
  refine lv_iload_n hx hb dL_law_281 rfl (lv_at hl 3 rfl) ?_
  refine lv_iconst (v := (1 : Int32)) hx hb dL_law_282 (by decide) ?_
  refine lv_iadd hx hb dL_law_283 ?_
  refine va_sld hx hb hX hbl hbA hS h1 dL_law_284 ?_
  obtain ⟨fs0, hm0⟩ := hI.cx
  refine k_calli0 (va_runV (As := [.int (xs (k0 + (1 : Int32)).toNatClampNeg)]) (rest := []) ⟨hx, hb, hml, hown, hts⟩ (c_X3_drop l G _ _ _ x (xs (k0 + (1 : Int32)).toNatClampNeg) (l_drop hok hI)) (cwV 1 hts gL_law_X3_drop rfl rfl rfl (by decide +kernel) ⟨Nat.le_of_ble_eq_true rfl, Nat.le_of_ble_eq_true rfl⟩) (k_preV (q := (RX3, TX3, 8)) hm0 rfl hR hS hA hE) rfl rfl hl.1 rfl (lv_room (Nat.le_of_ble_eq_true rfl)) dL_law_285 ⟨hz1, hz2⟩) hR hS hA (fun v1 M0 H0 locs0 hv hR hS => ?_)
  obtain ⟨e1, hI⟩ := hv
  refine lv_aload_n hx hb dL_law_288 rfl (lv_at hl 2 rfl) ?_
  refine lv_aload_n hx hb dL_law_289 rfl (lv_at hl 0 rfl) ?_
  refine lv_iload_n hx hb dL_law_290 rfl (lv_at hl 3 rfl) ?_
  refine lv_iconst (v := (1 : Int32)) hx hb dL_law_291 (by decide) ?_
  refine lv_iadd hx hb dL_law_292 ?_
  refine va_sld hx hb hX hbl hbA hS h1 dL_law_293 ?_
  obtain ⟨fs1, hm1⟩ := hI.cy
  refine k_calli0 (va_runV (As := [.int (xs (k0 + (1 : Int32)).toNatClampNeg)]) (rest := [.int v1]) ⟨hx, hb, hml, hown, hts⟩ (c_X4_drop l G _ _ _ y (xs (k0 + (1 : Int32)).toNatClampNeg) (r_drop hok hI)) (cwV 1 hts gL_law_X4_drop rfl rfl rfl (by decide +kernel) ⟨Nat.le_of_ble_eq_true rfl, Nat.le_of_ble_eq_true rfl⟩) (k_preV (q := (RX4, TX4, 13)) hm1 rfl hR hS hA hE) rfl rfl hl.1 rfl (lv_room (Nat.le_of_ble_eq_true rfl)) dL_law_294 ⟨hz1, hz2⟩) hR hS hA (fun v2 M1 H1 locs1 hv hR hS => ?_)
  obtain ⟨e2, hI⟩ := hv
  refine lv_icmp_eq (tgt := 866) hx hb dL_law_297 (by decide) (fun _ => ?_) (fun z => absurd (e1.trans e2.symm) z)
  refine W.widen (k := cells + 62) (n := slots + 8804) (Nat.le_add_right _ _) (Nat.le_add_right _ _) ?_
  exact kk _ _ _ _ (ok_drop hok _) hI hR hS
