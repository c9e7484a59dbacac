/-! ===== the law: its loop ===== -/
theorem l_5 (t : Nat) : nI (5 * t) + Int32.ofInt 5 = nI (5 * (t + 1)) := by
  rw [show Int32.ofInt 5 = nI 5 by decide +kernel]
  exact nI_add (5 * t) 5
theorem l_big : ∀ k, 24 ≤ k → k < 32 → (nI k).toInt < 0 ∨ 23 < (nI k).toInt := by
  intro k h1 h2
  rw [nI_toInt (by omega)]
  omega
set_option maxHeartbeats 4000000 in
set_option maxRecDepth 100000 in
theorem law_loop {p : Program} {l : Launch} {e : Env} {s : State} {m : MethodId} {below : List Frame} {meth : Method} {c : Code} {b L : Nat} {xs : Nat → Int32} {G : k_G} (hL : L ≤ 2560) (C0 : lw_At p s m meth c b L xs) (hE : kE G (fun q : Nat => s.heap.size ≤ q) s) {x y : Nat} :
    ∀ (n t : Nat), 5 * t ≤ L → L < 5 * (t + n) → ∀ (F : kF) (M : k_M) (H : Heap) (locs : List Loc) (cells slots : Nat) (ls : Array Slot), cells ≤ 400 + 62 * t → slots ≤ 9000 + 8804 * t → okF F → lI G M x y F F → kR G M (fun q : Nat => s.heap.size ≤ q) H → va_S (fun q : Nat => s.heap.size ≤ q) s.heap H locs → lv_has ls 4 [(0, .ref b), (1, .ref x), (2, .ref y), (3, .int (nI (5 * t)))] → W p l e room_1 s m #[Value.ref b] below meth c H locs cells slots (lw_Z below #[Value.ref b] s) (F0 m 18 ls []) := by
  obtain ⟨hx, hb, hr, hml, hown0, hts0, hX, hbl, hlocks, hgv⟩ := id C0
  have hbA : ¬ (fun q : Nat => s.heap.size ≤ q) b := Nat.not_le.mpr hbl
  intro n
  induction n with
  | zero =>
    intro t h1 h2
    exact absurd h2 (by omega)
  | succ n ih =>
    intro t ht hn F M H locs cells slots ls hc hs2 hok hI hR hS hl
    refine lv_iload_n hx hb dL_law_18 rfl (lv_at hl 3 rfl) ?_
    refine lv_aload_n hx hb dL_law_19 rfl (lv_at hl 0 rfl) ?_
    refine va_slen hx hb hX hbl hbA hS dL_law_20 ?_
    refine lv_iconst (v := (5 : Int32)) hx hb dL_law_21 (by decide) ?_
    refine lv_isub hx hb dL_law_22 ?_
    refine lv_icmp_gt (tgt := 872) hx hb dL_law_23 (by decide) (fun _ => ?_) (fun z => ?_)
    · refine lv_iconst (v := (1 : Int32)) hx hb dL_law_872 (by decide) ?_
      refine va_forget (fun q hq => hS.2.2 q hq) ?_
      refine W.widen (k := 600000) (n := 7302250) (by omega) (by omega) ?_
      exact lw_ret hx hb hr hlocks dL_law_873
    · have hlt : 5 * t + 5 ≤ L := l_end hL ht z
      have tail : ∀ (F1 : kF) (M1 : k_M) (H1 : Heap) (locs1 : List Loc), okF F1 → lI G M1 x y F1 F1 → kR G M1 (fun q : Nat => s.heap.size ≤ q) H1 → va_S (fun q : Nat => s.heap.size ≤ q) s.heap H1 locs1 → W p l e room_1 s m #[Value.ref b] below meth c H1 locs1 (cells + 62) (slots + 8804) (lw_Z below #[Value.ref b] s) (F0 m 866 ls []) := by
        intro F1 M1 H1 locs1 hok1 hI1 hR1 hS1
        refine lv_iinc (v := nI (5 * (t + 1))) (lv' := [(3, .int (nI (5 * (t + 1)))), (0, .ref b), (1, .ref x), (2, .ref y)]) hx hb dL_law_866 hl (k := 3) rfl (l_5 t) (by decide) rfl (fun ls hl => ?_)
        refine lv_goto (tgt := 18) hx hb dL_law_869 (by decide) ?_
        exact ih (t + 1) (by omega) (by omega) F1 M1 H1 locs1 _ _ ls (by omega) (by omega) hok1 hI1 hR1 hS1 (lv_sub hl [1, 2, 3, 0] rfl)
      refine lv_aload_n hx hb dL_law_26 rfl (lv_at hl 0 rfl) ?_
      refine lv_iload_n hx hb dL_law_27 rfl (lv_at hl 3 rfl) ?_
      refine va_sld hx hb hX hbl hbA hS (vp_in_nI (by omega) (by omega)) dL_law_28 ?_
      refine lv_bipush (v := (31 : Int32)) hx hb dL_law_29 (by decide) ?_
      refine lv_iand hx hb dL_law_31 ?_
      refine lv_topi (fun op eop => ?_)
      obtain ⟨k, hk, ek⟩ := l_31 (xs (nI (5 * t)).toNatClampNeg)
      rw [ek] at eop
      subst eop
      rcases (show k = 0 ∨ k = 1 ∨ k = 2 ∨ k = 3 ∨ k = 4 ∨ k = 5 ∨ k = 6 ∨ k = 7 ∨ k = 8 ∨ k = 9 ∨ k = 10 ∨ k = 11 ∨ k = 12 ∨ k = 13 ∨ k = 14 ∨ k = 15 ∨ k = 16 ∨ k = 17 ∨ k = 18 ∨ k = 19 ∨ k = 20 ∨ k = 21 ∨ k = 22 ∨ k = 23 ∨ 24 ≤ k by omega) with rfl | rfl | rfl | rfl | rfl | rfl | rfl | rfl | rfl | rfl | rfl | rfl | rfl | rfl | rfl | rfl | rfl | rfl | rfl | rfl | rfl | rfl | rfl | rfl | h24
      · refine lv_tableIn (tgt := 144) (off := 112) hx hb dL_law_32 (by decide +kernel) (by decide +kernel) (by decide +kernel) (by decide) ?_
        exact lc_fork C0 hE (l_ix (k := 1) hL hlt (by decide)) (l_ix (k := 2) hL hlt (by decide)) (l_ix (k := 3) hL hlt (by decide)) (l_ix (k := 4) hL hlt (by decide)) hok hI hR hS hl (by omega) (by omega) tail
      · refine lv_tableIn (tgt := 167) (off := 135) hx hb dL_law_32 (by decide +kernel) (by decide +kernel) (by decide +kernel) (by decide) ?_
        exact lc_gather C0 hE (l_ix (k := 1) hL hlt (by decide)) (l_ix (k := 2) hL hlt (by decide)) (l_ix (k := 3) hL hlt (by decide)) (l_ix (k := 4) hL hlt (by decide)) hok hI hR hS hl (by omega) (by omega) tail
      · refine lv_tableIn (tgt := 200) (off := 168) hx hb dL_law_32 (by decide +kernel) (by decide +kernel) (by decide +kernel) (by decide) ?_
        exact lc_event C0 hE (l_ix (k := 1) hL hlt (by decide)) (l_ix (k := 2) hL hlt (by decide)) (l_ix (k := 3) hL hlt (by decide)) (l_ix (k := 4) hL hlt (by decide)) hok hI hR hS hl (by omega) (by omega) tail
      · refine lv_tableIn (tgt := 223) (off := 191) hx hb dL_law_32 (by decide +kernel) (by decide +kernel) (by decide +kernel) (by decide) ?_
        exact lc_send C0 hE (l_ix (k := 1) hL hlt (by decide)) (l_ix (k := 2) hL hlt (by decide)) (l_ix (k := 3) hL hlt (by decide)) (l_ix (k := 4) hL hlt (by decide)) hok hI hR hS hl (by omega) (by omega) tail
      · refine lv_tableIn (tgt := 246) (off := 214) hx hb dL_law_32 (by decide +kernel) (by decide +kernel) (by decide +kernel) (by decide) ?_
        exact lc_receive C0 hE (l_ix (k := 1) hL hlt (by decide)) (l_ix (k := 2) hL hlt (by decide)) (l_ix (k := 3) hL hlt (by decide)) (l_ix (k := 4) hL hlt (by decide)) hok hI hR hS hl (by omega) (by omega) tail
      · refine lv_tableIn (tgt := 279) (off := 247) hx hb dL_law_32 (by decide +kernel) (by decide +kernel) (by decide +kernel) (by decide) ?_
        exact lc_drop C0 hE (l_ix (k := 1) hL hlt (by decide)) (l_ix (k := 2) hL hlt (by decide)) (l_ix (k := 3) hL hlt (by decide)) (l_ix (k := 4) hL hlt (by decide)) hok hI hR hS hl (by omega) (by omega) tail
      · refine lv_tableIn (tgt := 302) (off := 270) hx hb dL_law_32 (by decide +kernel) (by decide +kernel) (by decide +kernel) (by decide) ?_
        exact lc_of C0 hE (l_ix (k := 1) hL hlt (by decide)) (l_ix (k := 2) hL hlt (by decide)) (l_ix (k := 3) hL hlt (by decide)) (l_ix (k := 4) hL hlt (by decide)) hok hI hR hS hl (by omega) (by omega) tail
      · refine lv_tableIn (tgt := 335) (off := 303) hx hb dL_law_32 (by decide +kernel) (by decide +kernel) (by decide +kernel) (by decide) ?_
        exact lc_ofMessage C0 hE (l_ix (k := 1) hL hlt (by decide)) (l_ix (k := 2) hL hlt (by decide)) (l_ix (k := 3) hL hlt (by decide)) (l_ix (k := 4) hL hlt (by decide)) hok hI hR hS hl (by omega) (by omega) tail
      · refine lv_tableIn (tgt := 368) (off := 336) hx hb dL_law_32 (by decide +kernel) (by decide +kernel) (by decide +kernel) (by decide) ?_
        exact lc_height C0 hE (l_ix (k := 1) hL hlt (by decide)) (l_ix (k := 2) hL hlt (by decide)) (l_ix (k := 3) hL hlt (by decide)) (l_ix (k := 4) hL hlt (by decide)) hok hI hR hS hl (by omega) (by omega) tail
      · refine lv_tableIn (tgt := 411) (off := 379) hx hb dL_law_32 (by decide +kernel) (by decide +kernel) (by decide +kernel) (by decide) ?_
        exact lc_knows C0 hE (l_ix (k := 1) hL hlt (by decide)) (l_ix (k := 2) hL hlt (by decide)) (l_ix (k := 3) hL hlt (by decide)) (l_ix (k := 4) hL hlt (by decide)) hok hI hR hS hl (by omega) (by omega) tail
      · refine lv_tableIn (tgt := 454) (off := 422) hx hb dL_law_32 (by decide +kernel) (by decide +kernel) (by decide +kernel) (by decide) ?_
        exact lc_count C0 hE (l_ix (k := 1) hL hlt (by decide)) (l_ix (k := 2) hL hlt (by decide)) (l_ix (k := 3) hL hlt (by decide)) (l_ix (k := 4) hL hlt (by decide)) hok hI hR hS hl (by omega) (by omega) tail
      · refine lv_tableIn (tgt := 477) (off := 445) hx hb dL_law_32 (by decide +kernel) (by decide +kernel) (by decide +kernel) (by decide) ?_
        exact lc_whose C0 hE (l_ix (k := 1) hL hlt (by decide)) (l_ix (k := 2) hL hlt (by decide)) (l_ix (k := 3) hL hlt (by decide)) (l_ix (k := 4) hL hlt (by decide)) hok hI hR hS hl (by omega) (by omega) tail
      · refine lv_tableIn (tgt := 500) (off := 468) hx hb dL_law_32 (by decide +kernel) (by decide +kernel) (by decide +kernel) (by decide) ?_
        exact lc_order C0 hE (l_ix (k := 1) hL hlt (by decide)) (l_ix (k := 2) hL hlt (by decide)) (l_ix (k := 3) hL hlt (by decide)) (l_ix (k := 4) hL hlt (by decide)) hok hI hR hS hl (by omega) (by omega) tail
      · refine lv_tableIn (tgt := 553) (off := 521) hx hb dL_law_32 (by decide +kernel) (by decide +kernel) (by decide +kernel) (by decide) ?_
        exact lc_more C0 hE (l_ix (k := 1) hL hlt (by decide)) (l_ix (k := 2) hL hlt (by decide)) (l_ix (k := 3) hL hlt (by decide)) (l_ix (k := 4) hL hlt (by decide)) hok hI hR hS hl (by omega) (by omega) tail
      · refine lv_tableIn (tgt := 606) (off := 574) hx hb dL_law_32 (by decide +kernel) (by decide +kernel) (by decide +kernel) (by decide) ?_
        exact lc_orderToPad C0 hE (l_ix (k := 1) hL hlt (by decide)) (l_ix (k := 2) hL hlt (by decide)) (l_ix (k := 3) hL hlt (by decide)) (l_ix (k := 4) hL hlt (by decide)) hok hI hR hS hl (by omega) (by omega) tail
      · refine lv_tableIn (tgt := 629) (off := 597) hx hb dL_law_32 (by decide +kernel) (by decide +kernel) (by decide +kernel) (by decide) ?_
        exact lc_printed C0 hE (l_ix (k := 1) hL hlt (by decide)) (l_ix (k := 2) hL hlt (by decide)) (l_ix (k := 3) hL hlt (by decide)) (l_ix (k := 4) hL hlt (by decide)) hok hI hR hS hl (by omega) (by omega) tail
      · refine lv_tableIn (tgt := 662) (off := 630) hx hb dL_law_32 (by decide +kernel) (by decide +kernel) (by decide +kernel) (by decide) ?_
        exact lc_ifReceive C0 hE (l_ix (k := 1) hL hlt (by decide)) (l_ix (k := 2) hL hlt (by decide)) (l_ix (k := 3) hL hlt (by decide)) (l_ix (k := 4) hL hlt (by decide)) hok hI hR hS hl (by omega) (by omega) tail
      · refine lv_tableIn (tgt := 705) (off := 673) hx hb dL_law_32 (by decide +kernel) (by decide +kernel) (by decide +kernel) (by decide) ?_
        exact lc_laggard C0 hE (l_ix (k := 1) hL hlt (by decide)) (l_ix (k := 2) hL hlt (by decide)) (l_ix (k := 3) hL hlt (by decide)) (l_ix (k := 4) hL hlt (by decide)) hok hI hR hS hl (by omega) (by omega) tail
      · refine lv_tableIn (tgt := 728) (off := 696) hx hb dL_law_32 (by decide +kernel) (by decide +kernel) (by decide +kernel) (by decide) ?_
        exact lc_put C0 hE (l_ix (k := 1) hL hlt (by decide)) (l_ix (k := 2) hL hlt (by decide)) (l_ix (k := 3) hL hlt (by decide)) (l_ix (k := 4) hL hlt (by decide)) hok hI hR hS hl (by omega) (by omega) tail
      · refine lv_tableIn (tgt := 781) (off := 749) hx hb dL_law_32 (by decide +kernel) (by decide +kernel) (by decide +kernel) (by decide) ?_
        exact lc_wipe C0 hE (l_ix (k := 1) hL hlt (by decide)) (l_ix (k := 2) hL hlt (by decide)) (l_ix (k := 3) hL hlt (by decide)) (l_ix (k := 4) hL hlt (by decide)) hok hI hR hS hl (by omega) (by omega) tail
      · refine lv_tableIn (tgt := 794) (off := 762) hx hb dL_law_32 (by decide +kernel) (by decide +kernel) (by decide +kernel) (by decide) ?_
        exact lc_fault C0 hE (l_ix (k := 1) hL hlt (by decide)) (l_ix (k := 2) hL hlt (by decide)) (l_ix (k := 3) hL hlt (by decide)) (l_ix (k := 4) hL hlt (by decide)) hok hI hR hS hl (by omega) (by omega) tail
      · refine lv_tableIn (tgt := 807) (off := 775) hx hb dL_law_32 (by decide +kernel) (by decide +kernel) (by decide +kernel) (by decide) ?_
        exact lc_undo C0 hE (l_ix (k := 1) hL hlt (by decide)) (l_ix (k := 2) hL hlt (by decide)) (l_ix (k := 3) hL hlt (by decide)) (l_ix (k := 4) hL hlt (by decide)) hok hI hR hS hl (by omega) (by omega) tail
      · refine lv_tableIn (tgt := 820) (off := 788) hx hb dL_law_32 (by decide +kernel) (by decide +kernel) (by decide +kernel) (by decide) ?_
        exact lc_save C0 hE (l_ix (k := 1) hL hlt (by decide)) (l_ix (k := 2) hL hlt (by decide)) (l_ix (k := 3) hL hlt (by decide)) (l_ix (k := 4) hL hlt (by decide)) hok hI hR hS hl (by omega) (by omega) tail
      · refine lv_tableIn (tgt := 843) (off := 811) hx hb dL_law_32 (by decide +kernel) (by decide +kernel) (by decide +kernel) (by decide) ?_
        exact lc_restore C0 hE (l_ix (k := 1) hL hlt (by decide)) (l_ix (k := 2) hL hlt (by decide)) (l_ix (k := 3) hL hlt (by decide)) (l_ix (k := 4) hL hlt (by decide)) hok hI hR hS hl (by omega) (by omega) tail
      · refine lv_tableOut (tgt := 866) hx hb dL_law_32 (l_big k h24 hk) (by decide) ?_
        refine W.widen (k := cells + 62) (n := slots + 8804) (Nat.le_add_right _ _) (Nat.le_add_right _ _) ?_
        exact tail F M H locs hok hI hR hS
