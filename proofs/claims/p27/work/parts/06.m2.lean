def wp_X2_init_L75 (G : k_G) (mc ms : Nat) (post : k_M → Prop) : Nat → Nat → Int32 → Nat → Nat → k_M → Prop
  | 0 => fun _ _ _ _ _ => False
  | n + 1 => fun x0 x1 kc ks M =>
  (((8 : Int32) ≤ x1 →
      kc ≤ mc ∧ ks ≤ ms ∧ post M) ∧
      (¬ (8 : Int32) ≤ x1 →
      (∃ fs63 v64, M x0 = some (kO 3 fs63) ∧ fs63[2]? = some (.ref v64) ∧
        (kc + 1 ≤ mc ∧ ks + 3 ≤ ms ∧ ∀ (q67 : Nat) (M68 : k_M), M q67 = none → M68 = va_up M q67 (some (kO 2 [.null, .long 0, .long 0])) →
        (∃ mc71 ms72 : Nat, (kc + 1) + mc71 ≤ mc ∧ (ks + 3) + ms72 ≤ ms ∧ wp_X1_init G mc71 ms72 (fun M74 =>
        (∃ n78 f79 fs83, M74 v64 = some (kO1 G n78 f79) ∧ M74 q67 = some (kO 2 fs83) ∧ vp_in x1 n78 ∧ ∀ M80 : k_M, M80 = va_up M74 v64 (some (kO1 G n78 (va_up f79 (x1).toNatClampNeg (some q67)))) →
        (wp_X2_init_L75 G mc ms post n) x0 (x1 + (1 : Int32)) ((kc + 1) + mc71) ((ks + 3) + ms72) M80)) q67 M68)))))
def wp_X2_init_L48 (G : k_G) (mc ms : Nat) (post : k_M → Prop) : Nat → Nat → Int32 → Nat → Nat → k_M → Prop
  | 0 => fun _ _ _ _ _ => False
  | n + 1 => fun x0 x1 kc ks M =>
  (((8 : Int32) ≤ x1 →
      ∃ k62, wp_X2_init_L75 G mc ms post k62 x0 (0 : Int32) kc ks M) ∧
      (¬ (8 : Int32) ≤ x1 →
      (∃ fs85 v86, M x0 = some (kO 3 fs85) ∧ fs85[1]? = some (.ref v86) ∧
        (kc + 1 ≤ mc ∧ ks + 3 ≤ ms ∧ ∀ (q89 : Nat) (M90 : k_M), M q89 = none → M90 = va_up M q89 (some (kO 2 [.null, .long 0, .long 0])) →
        (∃ mc93 ms94 : Nat, (kc + 1) + mc93 ≤ mc ∧ (ks + 3) + ms94 ≤ ms ∧ wp_X1_init G mc93 ms94 (fun M96 =>
        (∃ n100 f101 fs105, M96 v86 = some (kO1 G n100 f101) ∧ M96 q89 = some (kO 2 fs105) ∧ vp_in x1 n100 ∧ ∀ M102 : k_M, M102 = va_up M96 v86 (some (kO1 G n100 (va_up f101 (x1).toNatClampNeg (some q89)))) →
        (wp_X2_init_L48 G mc ms post n) x0 (x1 + (1 : Int32)) ((kc + 1) + mc93) ((ks + 3) + ms94) M102)) q89 M90)))))
def wp_X2_init (G : k_G) (mc ms : Nat) (post : k_M → Prop) (p0 : Nat) (M0 : k_M) : Prop :=
  (∃ N1 : Nat, ¬ (8 : Int32) < 0 ∧ ((8 : Int32)).toNatClampNeg = N1 ∧ N1 * 4 ≤ 536870912 ∧ 0 + 1 ≤ mc ∧ 0 + N1 ≤ ms ∧ ∀ (q2 : Nat) (M3 : k_M), M0 q2 = none → M3 = va_up M0 q2 (some (kI G N1 (fun _ => 0))) →
  (∃ fs9, M3 p0 = some (kO 3 fs9) ∧ 0 < fs9.length ∧ ∀ M10 : k_M, M10 = va_up M3 p0 (some (kO 3 (fs9.set 0 (.ref q2)))) →
  (∃ N13 : Nat, ¬ (8 : Int32) < 0 ∧ ((8 : Int32)).toNatClampNeg = N13 ∧ N13 * 4 ≤ 536870912 ∧ (0 + 1) + 1 ≤ mc ∧ (0 + N1) + N13 ≤ ms ∧ ∀ (q14 : Nat) (M15 : k_M), M10 q14 = none → M15 = va_up M10 q14 (some (kO1 G N13 (fun _ => none))) →
  (∃ fs21, M15 p0 = some (kO 3 fs21) ∧ 1 < fs21.length ∧ ∀ M22 : k_M, M22 = va_up M15 p0 (some (kO 3 (fs21.set 1 (.ref q14)))) →
  (∃ N25 : Nat, ¬ (8 : Int32) < 0 ∧ ((8 : Int32)).toNatClampNeg = N25 ∧ N25 * 4 ≤ 536870912 ∧ ((0 + 1) + 1) + 1 ≤ mc ∧ ((0 + N1) + N13) + N25 ≤ ms ∧ ∀ (q26 : Nat) (M27 : k_M), M22 q26 = none → M27 = va_up M22 q26 (some (kO1 G N25 (fun _ => none))) →
  (∃ fs33, M27 p0 = some (kO 3 fs33) ∧ 2 < fs33.length ∧ ∀ M34 : k_M, M34 = va_up M27 p0 (some (kO 3 (fs33.set 2 (.ref q26)))) →
  (∃ N37 : Nat, ¬ (8 : Int32) < 0 ∧ ((8 : Int32)).toNatClampNeg = N37 ∧ N37 * 4 ≤ 536870912 ∧ (((0 + 1) + 1) + 1) + 1 ≤ mc ∧ (((0 + N1) + N13) + N25) + N37 ≤ ms ∧ ∀ (q38 : Nat) (M39 : k_M), M34 q38 = none → M39 = va_up M34 q38 (some (kI G N37 (fun _ => 0))) →
  (∃ fs45, M39 p0 = some (kO 3 fs45) ∧ 3 < fs45.length ∧ ∀ M46 : k_M, M46 = va_up M39 p0 (some (kO 3 (fs45.set 3 (.ref q38)))) →
  (∃ N49 : Nat, ¬ (120 : Int32) < 0 ∧ ((120 : Int32)).toNatClampNeg = N49 ∧ N49 * 4 ≤ 536870912 ∧ ((((0 + 1) + 1) + 1) + 1) + 1 ≤ mc ∧ ((((0 + N1) + N13) + N25) + N37) + N49 ≤ ms ∧ ∀ (q50 : Nat) (M51 : k_M), M46 q50 = none → M51 = va_up M46 q50 (some (kI G N49 (fun _ => 0))) →
  (∃ fs57, M51 p0 = some (kO 3 fs57) ∧ 5 < fs57.length ∧ ∀ M58 : k_M, M58 = va_up M51 p0 (some (kO 3 (fs57.set 5 (.ref q50)))) →
  ∃ k61, wp_X2_init_L48 G mc ms post k61 p0 (0 : Int32) (((((0 + 1) + 1) + 1) + 1) + 1) (((((0 + N1) + N13) + N25) + N37) + N49) M58))))))))))
theorem in_X2_init_X1 : ∀ w ∈ wsX10, w ∈ wsX2_init := by decide +kernel
theorem in_X2_init_X2 : ∀ w ∈ wsX20, w ∈ wsX2_init := by decide +kernel
set_option maxHeartbeats 4000000 in
set_option maxRecDepth 100000 in
theorem c_X2_init (l : Launch) (G : k_G) (mc ms : Nat) (M0 : k_M) (sz : Nat) (post : k_M → Prop) (p0 : Nat) (h : wp_X2_init G mc ms post p0 M0) : Met l yX2_init wsX2_init ({ frames := 2, cells := mc, slots := ms, locals := 32 }) (va_Pc [.ref p0] (kPre G M0 sz)) (va_Qv post (kB G M0 sz) (kA M0 sz)) mc ms (kA M0 sz) := by
  refine Met.ofW (cc := cX2_init) (maxL := 2) (ret := none) (by decide) rfl ?_
  intro p e s m args below meth c s₁ B hml hv
  obtain ⟨rfl, hsz, hR, hE⟩ := hv
  have hx := B.exec
  have hb := B.bytes
  have hr := B.returns
  have hts := atoms_spec (ws := wsX2_init) B.pre
  have hown : s.vm.findClass RX2 = some m.cls := findClass_of_methodNamed B.named
  have hlocks := B.notSynchronized
  have hin0 : meth.name = "<init>" := (name_of_methodNamed B.named B.method).1
  subst hsz
  have hK := hE.1
  have hA : ∀ q, s.heap.size ≤ q → kA M0 s.heap.size q := kA.new
  have hS : va_S (kA M0 s.heap.size) s.heap s.heap [] := va_S.rf
  have hw1 := hts (.methodLink RX2 3 objectInit) (by decide +kernel)
  have hw2 := hts (.instanceMethod objectInit) (by decide +kernel)
  have hw3 := hts (.code objectInit ⟨#[0xb1]⟩ 1 none) (by decide +kernel)
  have hw4 := hts (.arrayClass .int) (by decide +kernel)
  have hw5 := hts (.fieldLink RX2 9 "ForkedStamps$State" "shares" "[I") (by decide +kernel)
  have hw6 := hts (.classLink RX2 15 RX1) (by decide +kernel)
  have hw7 := hts (.fieldLink RX2 17 "ForkedStamps$State" "helpers" "[LForkedStamps$Stamp;") (by decide +kernel)
  have hw8 := hts (.fieldLink RX2 21 "ForkedStamps$State" "messages" "[LForkedStamps$Stamp;") (by decide +kernel)
  have hw9 := hts (.fieldLink RX2 24 "ForkedStamps$State" "senders" "[I") (by decide +kernel)
  have hw10 := hts (.fieldLink RX2 27 "ForkedStamps$State" "actors" "[I") (by decide +kernel)
  have hw11 := hts (.instantiable RX1 3) (by decide +kernel)
  have hw12 := hts (.initialized RX1) (by decide +kernel)
  have hw13 := hts (.instanceMethod yX1_init) (by decide +kernel)
  have L75 : ∀ (n : Nat), ∀ (x0 : Nat) (x1 : Int32) (kc : Nat) (ks : Nat) (M : k_M) (H : Heap) (locs : List Loc) (ls : Array Slot), wp_X2_init_L75 G mc ms post n x0 x1 kc ks M → lv_has ls 2 [(0, .ref x0), (1, .int x1)] → kR G M (kA M0 s.heap.size) H → va_S (kA M0 s.heap.size) s.heap H locs → W p l e (headSpec wsX2_init ({ frames := 2, cells := mc, slots := ms, locals := 32 })).room s m ([.ref p0] : List Value).toArray below meth c H locs kc ks (MQ below (va_Qv post (kB G M0 s.heap.size) (kA M0 s.heap.size)) ([.ref p0] : List Value).toArray s mc ms (kA M0 s.heap.size)) (F0 m 75 ls []) := by
    intro n
    induction n with
    | zero =>
      intro  x0 x1 kc ks M H locs ls h
      exact False.elim h
    | succ n ih =>
      intro  x0 x1 kc ks M H locs ls h hl hR hS
      refine lv_iload_n hx hb dX2_init_75 rfl (lv_at hl 1 rfl) ?_
      refine lv_bipush (v := (8 : Int32)) hx hb dX2_init_76 (by decide) ?_
      obtain ⟨ha, hb2⟩ := h
      refine lv_icmp_ge (tgt := 100) hx hb dX2_init_78 (by decide) (fun hc => ?_) (fun hc => ?_)
      · replace h := ha hc
        obtain ⟨hwc, hws, h⟩ := h
        refine W.widen (k := mc) (n := ms) hwc hws ?_
        exact k_retv hx hb hr hlocks hR hS h dX2_init_100
      · replace h := hb2 hc
        refine lv_aload_n hx hb dX2_init_81 rfl (lv_at hl 0 rfl) ?_
        obtain ⟨fs63, v64, hm65, hv66, h⟩ := h
        refine k_get (ci := 3) (C := RX2) (T := TX2) (N := 7) hx hb hts in_X2_init_X2 hown hK hR hm65 rfl 2 (by decide) hw8 (fun _ h9 => h9) hv66 dX2_init_82 ?_
        refine lv_iload_n hx hb dX2_init_85 rfl (lv_at hl 1 rfl) ?_
        obtain ⟨hn69, hn70, h⟩ := h
        refine k_new (ci := 2) (fs := [.null, .long 0, .long 0]) (C := RX1) (T := TX1) (N := 3) hx hb hts in_X2_init_X1 tyX1 tyX1_ok hown hw6 hw11 hw12 hK hR hS hA rfl (fun j hj => by rcases (show j = 0 ∨ j = 1 ∨ j = 2 by omega) with rfl | rfl | rfl <;> rfl) hn69 hn70 dX2_init_86 (fun q67 H hq hR hS => ?_)
        replace h := h q67 _ hq rfl
        refine lv_dup hx hb dX2_init_89 rfl ?_
        obtain ⟨mc71, ms72, hc76, hc77, h⟩ := h
        refine k_callv (va_runIN (As := []) (rest := [.ref q67, .int x1, .ref v64]) ⟨hx, hb, hml, hown, hts⟩ (c_X1_init l G mc71 ms72 _ _ _ q67 h) ⟨va_cnB 0 hts gX2_init_X1_init_n30 rfl rfl rfl hE.2.2.1 hw12 (by decide +kernel) ⟨Nat.le_of_ble_eq_true rfl, Nat.le_of_ble_eq_true rfl⟩, rfl, hw13⟩ (k_preS hR hS hA hE) rfl rfl hl.1 rfl (lv_room (Nat.le_of_ble_eq_true rfl)) dX2_init_90 ⟨hc76, hc77⟩) hR hS hA (fun M74 H locs h hR hS => ?_)
        obtain ⟨n78, f79, fs83, hm81, hq84, hv82, h⟩ := h
        replace h := h _ rfl
        refine k_ast1 hx hb hK hR hS hm81 hq84 hv82 dX2_init_93 (fun H locs hR hS => ?_)
        refine lv_iinc (v := (x1 + (1 : Int32))) (lv' := [(1, .int (x1 + (1 : Int32))), (0, .ref x0)]) hx hb dX2_init_94 hl (k := 1) rfl rfl (by decide) rfl (fun ls hl => ?_)
        refine lv_goto (tgt := 75) hx hb dX2_init_97 (by decide) ?_
        exact ih _ _ _ _ _ _ _ _ h (lv_sub hl [1, 0] rfl) hR hS
  have L48 : ∀ (n : Nat), ∀ (x0 : Nat) (x1 : Int32) (kc : Nat) (ks : Nat) (M : k_M) (H : Heap) (locs : List Loc) (ls : Array Slot), wp_X2_init_L48 G mc ms post n x0 x1 kc ks M → lv_has ls 2 [(0, .ref x0), (1, .int x1)] → kR G M (kA M0 s.heap.size) H → va_S (kA M0 s.heap.size) s.heap H locs → W p l e (headSpec wsX2_init ({ frames := 2, cells := mc, slots := ms, locals := 32 })).room s m ([.ref p0] : List Value).toArray below meth c H locs kc ks (MQ below (va_Qv post (kB G M0 s.heap.size) (kA M0 s.heap.size)) ([.ref p0] : List Value).toArray s mc ms (kA M0 s.heap.size)) (F0 m 48 ls []) := by
    intro n
    induction n with
    | zero =>
      intro  x0 x1 kc ks M H locs ls h
      exact False.elim h
    | succ n ih =>
      intro  x0 x1 kc ks M H locs ls h hl hR hS
      refine lv_iload_n hx hb dX2_init_48 rfl (lv_at hl 1 rfl) ?_
      refine lv_bipush (v := (8 : Int32)) hx hb dX2_init_49 (by decide) ?_
      obtain ⟨ha, hb2⟩ := h
      refine lv_icmp_ge (tgt := 73) hx hb dX2_init_51 (by decide) (fun hc => ?_) (fun hc => ?_)
      · replace h := ha hc
        refine lv_iconst (v := (0 : Int32)) hx hb dX2_init_73 (by decide) ?_
        refine lv_istore_n (lv' := [(1, .int (0 : Int32)), (0, .ref x0)]) hx hb dX2_init_74 rfl hl (by decide) rfl (fun ls hl => ?_)
        obtain ⟨k62, h⟩ := h
        exact L75 k62 _ _ _ _ _ _ _ _ h (lv_sub hl [1, 0] rfl) hR hS
      · replace h := hb2 hc
        refine lv_aload_n hx hb dX2_init_54 rfl (lv_at hl 0 rfl) ?_
        obtain ⟨fs85, v86, hm87, hv88, h⟩ := h
        refine k_get (ci := 3) (C := RX2) (T := TX2) (N := 7) hx hb hts in_X2_init_X2 hown hK hR hm87 rfl 1 (by decide) hw7 (fun _ h9 => h9) hv88 dX2_init_55 ?_
        refine lv_iload_n hx hb dX2_init_58 rfl (lv_at hl 1 rfl) ?_
        obtain ⟨hn91, hn92, h⟩ := h
        refine k_new (ci := 2) (fs := [.null, .long 0, .long 0]) (C := RX1) (T := TX1) (N := 3) hx hb hts in_X2_init_X1 tyX1 tyX1_ok hown hw6 hw11 hw12 hK hR hS hA rfl (fun j hj => by rcases (show j = 0 ∨ j = 1 ∨ j = 2 by omega) with rfl | rfl | rfl <;> rfl) hn91 hn92 dX2_init_59 (fun q89 H hq hR hS => ?_)
        replace h := h q89 _ hq rfl
        refine lv_dup hx hb dX2_init_62 rfl ?_
        obtain ⟨mc93, ms94, hc98, hc99, h⟩ := h
        refine k_callv (va_runIN (As := []) (rest := [.ref q89, .int x1, .ref v86]) ⟨hx, hb, hml, hown, hts⟩ (c_X1_init l G mc93 ms94 _ _ _ q89 h) ⟨va_cnB 0 hts gX2_init_X1_init_n30 rfl rfl rfl hE.2.2.1 hw12 (by decide +kernel) ⟨Nat.le_of_ble_eq_true rfl, Nat.le_of_ble_eq_true rfl⟩, rfl, hw13⟩ (k_preS hR hS hA hE) rfl rfl hl.1 rfl (lv_room (Nat.le_of_ble_eq_true rfl)) dX2_init_63 ⟨hc98, hc99⟩) hR hS hA (fun M96 H locs h hR hS => ?_)
        obtain ⟨n100, f101, fs105, hm103, hq106, hv104, h⟩ := h
        replace h := h _ rfl
        refine k_ast1 hx hb hK hR hS hm103 hq106 hv104 dX2_init_66 (fun H locs hR hS => ?_)
        refine lv_iinc (v := (x1 + (1 : Int32))) (lv' := [(1, .int (x1 + (1 : Int32))), (0, .ref x0)]) hx hb dX2_init_67 hl (k := 1) rfl rfl (by decide) rfl (fun ls hl => ?_)
        refine lv_goto (tgt := 48) hx hb dX2_init_70 (by decide) ?_
        exact ih _ _ _ _ _ _ _ _ h (lv_sub hl [1, 0] rfl) hR hS
  have hl := lv_entry ([.ref p0]) (n := 2) (Nat.le_of_ble_eq_true rfl)
  rw [lg_entry_eq]
  generalize (lg_sl ([.ref p0]) ++ List.replicate (2 - (lg_sl ([.ref p0])).length) Slot.unset).toArray = ls at hl ⊢
  have hl : lv_has ls 2 [(0, .ref p0)] := hl
  have hR0 := hR
  refine lv_aload_n hx hb dX2_init_0 rfl (lv_at hl 0 rfl) ?_
  refine W.objInit hx hb hown hw1 hw2 hw3 rfl (by rw [hml]; exact hl.1) rfl dX2_init_1 (Nat.le_of_ble_eq_true rfl) (Nat.le_of_ble_eq_true rfl) ?_
  refine W.eq (g2 := F0 m 4 ls []) rfl ?_
  refine lv_aload_n hx hb dX2_init_4 rfl (lv_at hl 0 rfl) ?_
  refine lv_bipush (v := (8 : Int32)) hx hb dX2_init_5 (by decide) ?_
  obtain ⟨N1, hn4, hn5, hn6, hn7, hn8, h⟩ := h
  refine k_newa (atype := .int) (ty := .int) (a0 := (N1, .inl (fun _ => 0))) hx hb hw4 rfl 0 rfl hK hR hS hA (fun _ => rfl) hn4 hn5 hn6 hn7 hn8 dX2_init_7 (fun q2 H hq hR hS => ?_)
  replace h := h q2 _ hq rfl
  obtain ⟨fs9, hm11, hk12, h⟩ := h
  replace h := h _ rfl
  refine k_putF (ci := 3) (v := .ref q2) (ty := .array .int) (C := RX2) (T := TX2) (N := 7) hx hb hts in_X2_init_X2 tyX2 tyX2_ok nmX2 hown hK hR hS hm11 rfl 0 (by decide) hw5 (fun _ h9 => h9) rfl hin0 rfl (by decide +kernel) rfl rfl hk12 dX2_init_9 (fun H locs hR hS => ?_)
  refine lv_aload_n hx hb dX2_init_12 rfl (lv_at hl 0 rfl) ?_
  refine lv_bipush (v := (8 : Int32)) hx hb dX2_init_13 (by decide) ?_
  obtain ⟨N13, hn16, hn17, hn18, hn19, hn20, h⟩ := h
  refine k_newq hx hb hown hw6 hE.2.2.2.2.2.2.1 4 rfl hK hR hS hA hn16 hn17 hn18 hn19 hn20 dX2_init_15 (fun q14 H hq hR hS => ?_)
  replace h := h q14 _ hq rfl
  obtain ⟨fs21, hm23, hk24, h⟩ := h
  replace h := h _ rfl
  refine k_putF (ci := 3) (v := .ref q14) (ty := .array (.object "ForkedStamps$Stamp")) (C := RX2) (T := TX2) (N := 7) hx hb hts in_X2_init_X2 tyX2 tyX2_ok nmX2 hown hK hR hS hm23 rfl 1 (by decide) hw7 (fun _ h9 => h9) rfl hin0 rfl (by decide +kernel) rfl rfl hk24 dX2_init_18 (fun H locs hR hS => ?_)
  refine lv_aload_n hx hb dX2_init_21 rfl (lv_at hl 0 rfl) ?_
  refine lv_bipush (v := (8 : Int32)) hx hb dX2_init_22 (by decide) ?_
  obtain ⟨N25, hn28, hn29, hn30, hn31, hn32, h⟩ := h
  refine k_newq hx hb hown hw6 hE.2.2.2.2.2.2.1 4 rfl hK hR hS hA hn28 hn29 hn30 hn31 hn32 dX2_init_24 (fun q26 H hq hR hS => ?_)
  replace h := h q26 _ hq rfl
  obtain ⟨fs33, hm35, hk36, h⟩ := h
  replace h := h _ rfl
  refine k_putF (ci := 3) (v := .ref q26) (ty := .array (.object "ForkedStamps$Stamp")) (C := RX2) (T := TX2) (N := 7) hx hb hts in_X2_init_X2 tyX2 tyX2_ok nmX2 hown hK hR hS hm35 rfl 2 (by decide) hw8 (fun _ h9 => h9) rfl hin0 rfl (by decide +kernel) rfl rfl hk36 dX2_init_27 (fun H locs hR hS => ?_)
  refine lv_aload_n hx hb dX2_init_30 rfl (lv_at hl 0 rfl) ?_
  refine lv_bipush (v := (8 : Int32)) hx hb dX2_init_31 (by decide) ?_
  obtain ⟨N37, hn40, hn41, hn42, hn43, hn44, h⟩ := h
  refine k_newa (atype := .int) (ty := .int) (a0 := (N37, .inl (fun _ => 0))) hx hb hw4 rfl 0 rfl hK hR hS hA (fun _ => rfl) hn40 hn41 hn42 hn43 hn44 dX2_init_33 (fun q38 H hq hR hS => ?_)
  replace h := h q38 _ hq rfl
  obtain ⟨fs45, hm47, hk48, h⟩ := h
  replace h := h _ rfl
  refine k_putF (ci := 3) (v := .ref q38) (ty := .array .int) (C := RX2) (T := TX2) (N := 7) hx hb hts in_X2_init_X2 tyX2 tyX2_ok nmX2 hown hK hR hS hm47 rfl 3 (by decide) hw9 (fun _ h9 => h9) rfl hin0 rfl (by decide +kernel) rfl rfl hk48 dX2_init_35 (fun H locs hR hS => ?_)
  refine lv_aload_n hx hb dX2_init_38 rfl (lv_at hl 0 rfl) ?_
  refine lv_bipush (v := (120 : Int32)) hx hb dX2_init_39 (by decide) ?_
  obtain ⟨N49, hn52, hn53, hn54, hn55, hn56, h⟩ := h
  refine k_newa (atype := .int) (ty := .int) (a0 := (N49, .inl (fun _ => 0))) hx hb hw4 rfl 0 rfl hK hR hS hA (fun _ => rfl) hn52 hn53 hn54 hn55 hn56 dX2_init_41 (fun q50 H hq hR hS => ?_)
  replace h := h q50 _ hq rfl
  obtain ⟨fs57, hm59, hk60, h⟩ := h
  replace h := h _ rfl
  refine k_putF (ci := 3) (v := .ref q50) (ty := .array .int) (C := RX2) (T := TX2) (N := 7) hx hb hts in_X2_init_X2 tyX2 tyX2_ok nmX2 hown hK hR hS hm59 rfl 5 (by decide) hw10 (fun _ h9 => h9) rfl hin0 rfl (by decide +kernel) rfl rfl hk60 dX2_init_43 (fun H locs hR hS => ?_)
  refine lv_iconst (v := (0 : Int32)) hx hb dX2_init_46 (by decide) ?_
  refine lv_istore_n (lv' := [(1, .int (0 : Int32)), (0, .ref p0)]) hx hb dX2_init_47 rfl hl (by decide) rfl (fun ls hl => ?_)
  obtain ⟨k61, h⟩ := h
  exact L48 k61 _ _ _ _ _ _ _ _ h (lv_sub hl [1, 0] rfl) hR hS

def wp_X2_become_L61 (G : k_G) (post : k_M → Prop) : Nat → Nat → Nat → Int32 → k_M → Prop
  | 0 => fun _ _ _ _ => False
  | n + 1 => fun x0 x1 x2 M =>
  (((8 : Int32) ≤ x2 →
      (∃ fs43 v44, M x1 = some (kO 3 fs43) ∧ fs43[4]? = some (.int v44) ∧
        (∃ fs47, M x0 = some (kO 3 fs47) ∧ 4 < fs47.length ∧ ∀ M48 : k_M, M48 = va_up M x0 (some (kO 3 (fs47.set 4 (.int v44)))) →
        (∃ fs51 v52, M48 x1 = some (kO 3 fs51) ∧ fs51[5]? = some (.ref v52) ∧
        (∃ fs55 v56, M48 x0 = some (kO 3 fs55) ∧ fs55[5]? = some (.ref v56) ∧
        (∃ n59 f61 n60 f62, M48 v52 = some (kI G n59 f61) ∧ M48 v56 = some (kI G n60 f62) ∧ ¬ (0 : Int32) < 0 ∧ ¬ (0 : Int32) < 0 ∧ ¬ (120 : Int32) < 0 ∧ ((0 : Int32)).toNatClampNeg + ((120 : Int32)).toNatClampNeg ≤ n59 ∧ ((0 : Int32)).toNatClampNeg + ((120 : Int32)).toNatClampNeg ≤ n60 ∧ ∀ M63 : k_M, M63 = va_up M48 v56 (some (kI G n60 (va_cpy f61 f62 ((0 : Int32)).toNatClampNeg ((0 : Int32)).toNatClampNeg ((120 : Int32)).toNatClampNeg))) →
        (∃ fs71 v72, M63 x1 = some (kO 3 fs71) ∧ fs71[6]? = some (.int v72) ∧
        (∃ fs75, M63 x0 = some (kO 3 fs75) ∧ 6 < fs75.length ∧ ∀ M76 : k_M, M76 = va_up M63 x0 (some (kO 3 (fs75.set 6 (.int v72)))) →
        post M76)))))))) ∧
      (¬ (8 : Int32) ≤ x2 →
      (∃ fs79 v80, M x0 = some (kO 3 fs79) ∧ fs79[2]? = some (.ref v80) ∧
        (∃ n83 f84 v85, M v80 = some (kO1 G n83 f84) ∧ vp_in x2 n83 ∧ f84 (x2).toNatClampNeg = some v85 ∧
        (∃ fs89 v90, M x1 = some (kO 3 fs89) ∧ fs89[2]? = some (.ref v90) ∧
        (∃ n93 f94 v95, M v90 = some (kO1 G n93 f94) ∧ vp_in x2 n93 ∧ f94 (x2).toNatClampNeg = some v95 ∧
        (∃ fs102, M v85 = some (kO 2 fs102) ∧ wp_X1_become G (fun M100 =>
        (wp_X2_become_L61 G post n) x0 x1 (x2 + (1 : Int32)) M100) v85 v95 M)))))))
def wp_X2_become_L17 (G : k_G) (post : k_M → Prop) : Nat → Nat → Nat → Int32 → k_M → Prop
  | 0 => fun _ _ _ _ => False
  | n + 1 => fun x0 x1 x2 M =>
  (((8 : Int32) ≤ x2 →
      (∃ fs22 v23, M x1 = some (kO 3 fs22) ∧ fs22[3]? = some (.ref v23) ∧
        (∃ fs26 v27, M x0 = some (kO 3 fs26) ∧ fs26[3]? = some (.ref v27) ∧
        (∃ n30 f32 n31 f33, M v23 = some (kI G n30 f32) ∧ M v27 = some (kI G n31 f33) ∧ ¬ (0 : Int32) < 0 ∧ ¬ (0 : Int32) < 0 ∧ ¬ (8 : Int32) < 0 ∧ ((0 : Int32)).toNatClampNeg + ((8 : Int32)).toNatClampNeg ≤ n30 ∧ ((0 : Int32)).toNatClampNeg + ((8 : Int32)).toNatClampNeg ≤ n31 ∧ ∀ M34 : k_M, M34 = va_up M v27 (some (kI G n31 (va_cpy f32 f33 ((0 : Int32)).toNatClampNeg ((0 : Int32)).toNatClampNeg ((8 : Int32)).toNatClampNeg))) →
        ∃ k42, wp_X2_become_L61 G post k42 x0 x1 (0 : Int32) M34)))) ∧
      (¬ (8 : Int32) ≤ x2 →
      (∃ fs103 v104, M x0 = some (kO 3 fs103) ∧ fs103[1]? = some (.ref v104) ∧
        (∃ n107 f108 v109, M v104 = some (kO1 G n107 f108) ∧ vp_in x2 n107 ∧ f108 (x2).toNatClampNeg = some v109 ∧
        (∃ fs113 v114, M x1 = some (kO 3 fs113) ∧ fs113[1]? = some (.ref v114) ∧
        (∃ n117 f118 v119, M v114 = some (kO1 G n117 f118) ∧ vp_in x2 n117 ∧ f118 (x2).toNatClampNeg = some v119 ∧
        (∃ fs126, M v109 = some (kO 2 fs126) ∧ wp_X1_become G (fun M124 =>
        (wp_X2_become_L17 G post n) x0 x1 (x2 + (1 : Int32)) M124) v109 v119 M)))))))
def wp_X2_become (G : k_G) (post : k_M → Prop) (p0 : Nat) (p1 : Nat) (M0 : k_M) : Prop :=
  (∃ fs1 v2, M0 p1 = some (kO 3 fs1) ∧ fs1[0]? = some (.ref v2) ∧
  (∃ fs5 v6, M0 p0 = some (kO 3 fs5) ∧ fs5[0]? = some (.ref v6) ∧
  (∃ n9 f11 n10 f12, M0 v2 = some (kI G n9 f11) ∧ M0 v6 = some (kI G n10 f12) ∧ ¬ (0 : Int32) < 0 ∧ ¬ (0 : Int32) < 0 ∧ ¬ (8 : Int32) < 0 ∧ ((0 : Int32)).toNatClampNeg + ((8 : Int32)).toNatClampNeg ≤ n9 ∧ ((0 : Int32)).toNatClampNeg + ((8 : Int32)).toNatClampNeg ≤ n10 ∧ ∀ M13 : k_M, M13 = va_up M0 v6 (some (kI G n10 (va_cpy f11 f12 ((0 : Int32)).toNatClampNeg ((0 : Int32)).toNatClampNeg ((8 : Int32)).toNatClampNeg))) →
  ∃ k21, wp_X2_become_L17 G post k21 p0 p1 (0 : Int32) M13)))
theorem in_X2_become_X2 : ∀ w ∈ wsX20, w ∈ wsX2_become := by decide +kernel
set_option maxHeartbeats 4000000 in
set_option maxRecDepth 100000 in
theorem c_X2_become (l : Launch) (G : k_G) (M0 : k_M) (sz : Nat) (post : k_M → Prop) (p0 : Nat) (p1 : Nat) (h : wp_X2_become G post p0 p1 M0) : Met l yX2_become wsX2_become ({ frames := 2, cells := 0, slots := 0, locals := 61 }) (va_Pc [.ref p0, .ref p1] (kPre G M0 sz)) (va_Qv post (kB G M0 sz) (kA M0 sz)) 0 0 (kA M0 sz) := by
  refine Met.ofW (cc := cX2_become) (maxL := 3) (ret := none) (by decide) rfl ?_
  intro p e s m args below meth c s₁ B hml hv
  obtain ⟨rfl, hsz, hR, hE⟩ := hv
  have hx := B.exec
  have hb := B.bytes
  have hr := B.returns
  have hts := atoms_spec (ws := wsX2_become) B.pre
  have hown : s.vm.findClass RX2 = some m.cls := findClass_of_methodNamed B.named
  have hlocks := B.notSynchronized
  subst hsz
  have hK := hE.1
  have hA : ∀ q, s.heap.size ≤ q → kA M0 s.heap.size q := kA.new
  have hS : va_S (kA M0 s.heap.size) s.heap s.heap [] := va_S.rf
  have hw1 := hts (.fieldLink RX2 9 "ForkedStamps$State" "shares" "[I") (by decide +kernel)
  have hw2 := hts (.methodLink RX2 31 arraycopyName) (by decide +kernel)
  have hw3 := hts (.native arraycopyName) (by decide +kernel)
  have hw4 := hts (.static arraycopyName) (by decide +kernel)
  have hw5 := hts (.initialized "java/lang/System") (by decide +kernel)
  have hw6 := hts (.fieldLink RX2 24 "ForkedStamps$State" "senders" "[I") (by decide +kernel)
  have hw7 := hts (.fieldLink RX2 41 "ForkedStamps$State" "messageCount" "I") (by decide +kernel)
  have hw8 := hts (.fieldLink RX2 27 "ForkedStamps$State" "actors" "[I") (by decide +kernel)
  have hw9 := hts (.fieldLink RX2 45 "ForkedStamps$State" "eventCount" "I") (by decide +kernel)
  have hw10 := hts (.fieldLink RX2 21 "ForkedStamps$State" "messages" "[LForkedStamps$Stamp;") (by decide +kernel)
  have hw11 := hts (.fieldLink RX2 17 "ForkedStamps$State" "helpers" "[LForkedStamps$Stamp;") (by decide +kernel)
  have L61 : ∀ (n : Nat), ∀ (x0 : Nat) (x1 : Nat) (x2 : Int32) (M : k_M) (H : Heap) (locs : List Loc) (ls : Array Slot), wp_X2_become_L61 G post n x0 x1 x2 M → lv_has ls 3 [(0, .ref x0), (1, .ref x1), (2, .int x2)] → kR G M (kA M0 s.heap.size) H → va_S (kA M0 s.heap.size) s.heap H locs → W p l e (headSpec wsX2_become ({ frames := 2, cells := 0, slots := 0, locals := 61 })).room s m ([.ref p0, .ref p1] : List Value).toArray below meth c H locs 0 0 (MQ below (va_Qv post (kB G M0 s.heap.size) (kA M0 s.heap.size)) ([.ref p0, .ref p1] : List Value).toArray s 0 0 (kA M0 s.heap.size)) (F0 m 61 ls []) := by
    intro n
    induction n with
    | zero =>
      intro  x0 x1 x2 M H locs ls h
      exact False.elim h
    | succ n ih =>
      intro  x0 x1 x2 M H locs ls h hl hR hS
      refine lv_iload_n hx hb dX2_become_61 rfl (lv_at hl 2 rfl) ?_
      refine lv_bipush (v := (8 : Int32)) hx hb dX2_become_62 (by decide) ?_
      obtain ⟨ha, hb2⟩ := h
      refine lv_icmp_ge (tgt := 88) hx hb dX2_become_64 (by decide) (fun hc => ?_) (fun hc => ?_)
      · replace h := ha hc
        refine lv_aload_n hx hb dX2_become_88 rfl (lv_at hl 0 rfl) ?_
        refine lv_aload_n hx hb dX2_become_89 rfl (lv_at hl 1 rfl) ?_
        obtain ⟨fs43, v44, hm45, hv46, h⟩ := h
        refine k_get (ci := 3) (C := RX2) (T := TX2) (N := 7) hx hb hts in_X2_become_X2 hown hK hR hm45 rfl 4 (by decide) hw7 (fun _ h9 => h9) hv46 dX2_become_90 ?_
        obtain ⟨fs47, hm49, hk50, h⟩ := h
        replace h := h _ rfl
        refine k_put (ci := 3) (v := .int v44) (ty := .int) (C := RX2) (T := TX2) (N := 7) hx hb hts in_X2_become_X2 tyX2 tyX2_ok nmX2 hown hK hR hS hm49 rfl 4 (by decide) hw7 (fun _ h9 => h9) rfl (by decide +kernel) rfl rfl hk50 dX2_become_93 (fun H locs hR hS => ?_)
        refine lv_aload_n hx hb dX2_become_96 rfl (lv_at hl 1 rfl) ?_
        obtain ⟨fs51, v52, hm53, hv54, h⟩ := h
        refine k_get (ci := 3) (C := RX2) (T := TX2) (N := 7) hx hb hts in_X2_become_X2 hown hK hR hm53 rfl 5 (by decide) hw8 (fun _ h9 => h9) hv54 dX2_become_97 ?_
        refine lv_iconst (v := (0 : Int32)) hx hb dX2_become_100 (by decide) ?_
        refine lv_aload_n hx hb dX2_become_101 rfl (lv_at hl 0 rfl) ?_
        obtain ⟨fs55, v56, hm57, hv58, h⟩ := h
        refine k_get (ci := 3) (C := RX2) (T := TX2) (N := 7) hx hb hts in_X2_become_X2 hown hK hR hm57 rfl 5 (by decide) hw8 (fun _ h9 => h9) hv58 dX2_become_102 ?_
        refine lv_iconst (v := (0 : Int32)) hx hb dX2_become_105 (by decide) ?_
        refine lv_bipush (v := (120 : Int32)) hx hb dX2_become_106 (by decide) ?_
        obtain ⟨n59, f61, n60, f62, hc64, hc65, hc66, hc67, hc68, hc69, hc70, h⟩ := h
        replace h := h _ rfl
        refine k_copyi hx hb (by rw [hml]; exact hl.1.symm) hown hw2 hw3 hw4 hw5 hK hR hS hc64 hc65 hc66 hc67 hc68 hc69 hc70 (Nat.le_of_ble_eq_true rfl) (Nat.le_of_ble_eq_true rfl) dX2_become_108 (fun H locs hR hS => ?_)
        refine lv_aload_n hx hb dX2_become_111 rfl (lv_at hl 0 rfl) ?_
        refine lv_aload_n hx hb dX2_become_112 rfl (lv_at hl 1 rfl) ?_
        obtain ⟨fs71, v72, hm73, hv74, h⟩ := h
        refine k_get (ci := 3) (C := RX2) (T := TX2) (N := 7) hx hb hts in_X2_become_X2 hown hK hR hm73 rfl 6 (by decide) hw9 (fun _ h9 => h9) hv74 dX2_become_113 ?_
        obtain ⟨fs75, hm77, hk78, h⟩ := h
        replace h := h _ rfl
        refine k_put (ci := 3) (v := .int v72) (ty := .int) (C := RX2) (T := TX2) (N := 7) hx hb hts in_X2_become_X2 tyX2 tyX2_ok nmX2 hown hK hR hS hm77 rfl 6 (by decide) hw9 (fun _ h9 => h9) rfl (by decide +kernel) rfl rfl hk78 dX2_become_116 (fun H locs hR hS => ?_)
        exact k_retv hx hb hr hlocks hR hS h dX2_become_119
      · replace h := hb2 hc
        refine lv_aload_n hx hb dX2_become_67 rfl (lv_at hl 0 rfl) ?_
        obtain ⟨fs79, v80, hm81, hv82, h⟩ := h
        refine k_get (ci := 3) (C := RX2) (T := TX2) (N := 7) hx hb hts in_X2_become_X2 hown hK hR hm81 rfl 2 (by decide) hw10 (fun _ h9 => h9) hv82 dX2_become_68 ?_
        refine lv_iload_n hx hb dX2_become_71 rfl (lv_at hl 2 rfl) ?_
        obtain ⟨n83, f84, v85, hm86, hv87, hq88, h⟩ := h
        refine k_ald1 hx hb hK hR hm86 hv87 hq88 dX2_become_72 ?_
        refine lv_aload_n hx hb dX2_become_73 rfl (lv_at hl 1 rfl) ?_
        obtain ⟨fs89, v90, hm91, hv92, h⟩ := h
        refine k_get (ci := 3) (C := RX2) (T := TX2) (N := 7) hx hb hts in_X2_become_X2 hown hK hR hm91 rfl 2 (by decide) hw10 (fun _ h9 => h9) hv92 dX2_become_74 ?_
        refine lv_iload_n hx hb dX2_become_77 rfl (lv_at hl 2 rfl) ?_
        obtain ⟨n93, f94, v95, hm96, hv97, hq98, h⟩ := h
        refine k_ald1 hx hb hK hR hm96 hv97 hq98 dX2_become_78 ?_
        obtain ⟨fs102, hm101, h⟩ := h
        refine k_callv0 (va_runV (As := [.ref v95]) (rest := []) ⟨hx, hb, hml, hown, hts⟩ (c_X1_become l G _ _ _ v85 v95 h) (cwV 1 hts gX2_become_X1_become rfl rfl rfl (by decide +kernel) ⟨Nat.le_of_ble_eq_true rfl, Nat.le_of_ble_eq_true rfl⟩) (k_preV (q := (RX1, TX1, 3)) hm101 rfl hR hS hA hE) rfl rfl hl.1 rfl (lv_room (Nat.le_of_ble_eq_true rfl)) dX2_become_79 ⟨Nat.zero_le _, Nat.zero_le _⟩) hR hS hA (fun M100 H locs h hR hS => ?_)
        refine lv_iinc (v := (x2 + (1 : Int32))) (lv' := [(2, .int (x2 + (1 : Int32))), (0, .ref x0), (1, .ref x1)]) hx hb dX2_become_82 hl (k := 2) rfl rfl (by decide) rfl (fun ls hl => ?_)
        refine lv_goto (tgt := 61) hx hb dX2_become_85 (by decide) ?_
        exact ih _ _ _ _ _ _ _ h (lv_sub hl [1, 2, 0] rfl) hR hS
  have L17 : ∀ (n : Nat), ∀ (x0 : Nat) (x1 : Nat) (x2 : Int32) (M : k_M) (H : Heap) (locs : List Loc) (ls : Array Slot), wp_X2_become_L17 G post n x0 x1 x2 M → lv_has ls 3 [(0, .ref x0), (1, .ref x1), (2, .int x2)] → kR G M (kA M0 s.heap.size) H → va_S (kA M0 s.heap.size) s.heap H locs → W p l e (headSpec wsX2_become ({ frames := 2, cells := 0, slots := 0, locals := 61 })).room s m ([.ref p0, .ref p1] : List Value).toArray below meth c H locs 0 0 (MQ below (va_Qv post (kB G M0 s.heap.size) (kA M0 s.heap.size)) ([.ref p0, .ref p1] : List Value).toArray s 0 0 (kA M0 s.heap.size)) (F0 m 17 ls []) := by
    intro n
    induction n with
    | zero =>
      intro  x0 x1 x2 M H locs ls h
      exact False.elim h
    | succ n ih =>
      intro  x0 x1 x2 M H locs ls h hl hR hS
      refine lv_iload_n hx hb dX2_become_17 rfl (lv_at hl 2 rfl) ?_
      refine lv_bipush (v := (8 : Int32)) hx hb dX2_become_18 (by decide) ?_
      obtain ⟨ha, hb2⟩ := h
      refine lv_icmp_ge (tgt := 44) hx hb dX2_become_20 (by decide) (fun hc => ?_) (fun hc => ?_)
      · replace h := ha hc
        refine lv_aload_n hx hb dX2_become_44 rfl (lv_at hl 1 rfl) ?_
        obtain ⟨fs22, v23, hm24, hv25, h⟩ := h
        refine k_get (ci := 3) (C := RX2) (T := TX2) (N := 7) hx hb hts in_X2_become_X2 hown hK hR hm24 rfl 3 (by decide) hw6 (fun _ h9 => h9) hv25 dX2_become_45 ?_
        refine lv_iconst (v := (0 : Int32)) hx hb dX2_become_48 (by decide) ?_
        refine lv_aload_n hx hb dX2_become_49 rfl (lv_at hl 0 rfl) ?_
        obtain ⟨fs26, v27, hm28, hv29, h⟩ := h
        refine k_get (ci := 3) (C := RX2) (T := TX2) (N := 7) hx hb hts in_X2_become_X2 hown hK hR hm28 rfl 3 (by decide) hw6 (fun _ h9 => h9) hv29 dX2_become_50 ?_
        refine lv_iconst (v := (0 : Int32)) hx hb dX2_become_53 (by decide) ?_
        refine lv_bipush (v := (8 : Int32)) hx hb dX2_become_54 (by decide) ?_
        obtain ⟨n30, f32, n31, f33, hc35, hc36, hc37, hc38, hc39, hc40, hc41, h⟩ := h
        replace h := h _ rfl
        refine k_copyi hx hb (by rw [hml]; exact hl.1.symm) hown hw2 hw3 hw4 hw5 hK hR hS hc35 hc36 hc37 hc38 hc39 hc40 hc41 (Nat.le_of_ble_eq_true rfl) (Nat.le_of_ble_eq_true rfl) dX2_become_56 (fun H locs hR hS => ?_)
        refine lv_iconst (v := (0 : Int32)) hx hb dX2_become_59 (by decide) ?_
        refine lv_istore_n (lv' := [(2, .int (0 : Int32)), (0, .ref x0), (1, .ref x1)]) hx hb dX2_become_60 rfl hl (by decide) rfl (fun ls hl => ?_)
        obtain ⟨k42, h⟩ := h
        exact L61 k42 _ _ _ _ _ _ _ h (lv_sub hl [1, 2, 0] rfl) hR hS
      · replace h := hb2 hc
        refine lv_aload_n hx hb dX2_become_23 rfl (lv_at hl 0 rfl) ?_
        obtain ⟨fs103, v104, hm105, hv106, h⟩ := h
        refine k_get (ci := 3) (C := RX2) (T := TX2) (N := 7) hx hb hts in_X2_become_X2 hown hK hR hm105 rfl 1 (by decide) hw11 (fun _ h9 => h9) hv106 dX2_become_24 ?_
        refine lv_iload_n hx hb dX2_become_27 rfl (lv_at hl 2 rfl) ?_
        obtain ⟨n107, f108, v109, hm110, hv111, hq112, h⟩ := h
        refine k_ald1 hx hb hK hR hm110 hv111 hq112 dX2_become_28 ?_
        refine lv_aload_n hx hb dX2_become_29 rfl (lv_at hl 1 rfl) ?_
        obtain ⟨fs113, v114, hm115, hv116, h⟩ := h
        refine k_get (ci := 3) (C := RX2) (T := TX2) (N := 7) hx hb hts in_X2_become_X2 hown hK hR hm115 rfl 1 (by decide) hw11 (fun _ h9 => h9) hv116 dX2_become_30 ?_
        refine lv_iload_n hx hb dX2_become_33 rfl (lv_at hl 2 rfl) ?_
        obtain ⟨n117, f118, v119, hm120, hv121, hq122, h⟩ := h
        refine k_ald1 hx hb hK hR hm120 hv121 hq122 dX2_become_34 ?_
        obtain ⟨fs126, hm125, h⟩ := h
        refine k_callv0 (va_runV (As := [.ref v119]) (rest := []) ⟨hx, hb, hml, hown, hts⟩ (c_X1_become l G _ _ _ v109 v119 h) (cwV 1 hts gX2_become_X1_become rfl rfl rfl (by decide +kernel) ⟨Nat.le_of_ble_eq_true rfl, Nat.le_of_ble_eq_true rfl⟩) (k_preV (q := (RX1, TX1, 3)) hm125 rfl hR hS hA hE) rfl rfl hl.1 rfl (lv_room (Nat.le_of_ble_eq_true rfl)) dX2_become_35 ⟨Nat.zero_le _, Nat.zero_le _⟩) hR hS hA (fun M124 H locs h hR hS => ?_)
        refine lv_iinc (v := (x2 + (1 : Int32))) (lv' := [(2, .int (x2 + (1 : Int32))), (0, .ref x0), (1, .ref x1)]) hx hb dX2_become_38 hl (k := 2) rfl rfl (by decide) rfl (fun ls hl => ?_)
        refine lv_goto (tgt := 17) hx hb dX2_become_41 (by decide) ?_
        exact ih _ _ _ _ _ _ _ h (lv_sub hl [1, 2, 0] rfl) hR hS
  have hl := lv_entry ([.ref p0, .ref p1]) (n := 3) (Nat.le_of_ble_eq_true rfl)
  rw [lg_entry_eq]
  generalize (lg_sl ([.ref p0, .ref p1]) ++ List.replicate (3 - (lg_sl ([.ref p0, .ref p1])).length) Slot.unset).toArray = ls at hl ⊢
  have hl : lv_has ls 3 [(0, .ref p0), (1, .ref p1)] := hl
  have hR0 := hR
  refine lv_aload_n hx hb dX2_become_0 rfl (lv_at hl 1 rfl) ?_
  obtain ⟨fs1, v2, hm3, hv4, h⟩ := h
  refine k_get (ci := 3) (C := RX2) (T := TX2) (N := 7) hx hb hts in_X2_become_X2 hown hK hR hm3 rfl 0 (by decide) hw1 (fun _ h9 => h9) hv4 dX2_become_1 ?_
  refine lv_iconst (v := (0 : Int32)) hx hb dX2_become_4 (by decide) ?_
  refine lv_aload_n hx hb dX2_become_5 rfl (lv_at hl 0 rfl) ?_
  obtain ⟨fs5, v6, hm7, hv8, h⟩ := h
  refine k_get (ci := 3) (C := RX2) (T := TX2) (N := 7) hx hb hts in_X2_become_X2 hown hK hR hm7 rfl 0 (by decide) hw1 (fun _ h9 => h9) hv8 dX2_become_6 ?_
  refine lv_iconst (v := (0 : Int32)) hx hb dX2_become_9 (by decide) ?_
  refine lv_bipush (v := (8 : Int32)) hx hb dX2_become_10 (by decide) ?_
  obtain ⟨n9, f11, n10, f12, hc14, hc15, hc16, hc17, hc18, hc19, hc20, h⟩ := h
  replace h := h _ rfl
  refine k_copyi hx hb (by rw [hml]; exact hl.1.symm) hown hw2 hw3 hw4 hw5 hK hR hS hc14 hc15 hc16 hc17 hc18 hc19 hc20 (Nat.le_of_ble_eq_true rfl) (Nat.le_of_ble_eq_true rfl) dX2_become_12 (fun H locs hR hS => ?_)
  refine lv_iconst (v := (0 : Int32)) hx hb dX2_become_15 (by decide) ?_
  refine lv_istore_n (lv' := [(2, .int (0 : Int32)), (0, .ref p0), (1, .ref p1)]) hx hb dX2_become_16 rfl hl (by decide) rfl (fun ls hl => ?_)
  obtain ⟨k21, h⟩ := h
  exact L17 k21 _ _ _ _ _ _ _ h (lv_sub hl [1, 2, 0] rfl) hR hS

def wp_X2_isHelper (G : k_G) (post : Int32 → k_M → Prop) (p0 : Nat) (p1 : Int32) (M0 : k_M) : Prop :=
  ((p1 < 0 →
  post (0 : Int32) M0) ∧
  (¬ p1 < 0 →
  (((8 : Int32) ≤ p1 →
    post (0 : Int32) M0) ∧
    (¬ (8 : Int32) ≤ p1 →
    (∃ fs1 v2, M0 p0 = some (kO 3 fs1) ∧ fs1[0]? = some (.ref v2) ∧
      (∃ n5 f6, M0 v2 = some (kI G n5 f6) ∧ vp_in p1 n5 ∧
      (((f6 (p1).toNatClampNeg) = 0 →
      post (0 : Int32) M0) ∧
      (¬ (f6 (p1).toNatClampNeg) = 0 →
      post (1 : Int32) M0))))))))
theorem in_X2_isHelper_X2 : ∀ w ∈ wsX20, w ∈ wsX2_isHelper := by decide +kernel
set_option maxHeartbeats 4000000 in
set_option maxRecDepth 100000 in
theorem c_X2_isHelper (l : Launch) (G : k_G) (M0 : k_M) (sz : Nat) (post : Int32 → k_M → Prop) (p0 : Nat) (p1 : Int32) (h : wp_X2_isHelper G post p0 p1 M0) : Met l yX2_isHelper wsX2_isHelper ({ frames := 0, cells := 0, slots := 0, locals := 0 }) (va_Pc [.ref p0, .int p1] (kPre G M0 sz)) (va_Qi post (kB G M0 sz) (kA M0 sz)) 0 0 (kA M0 sz) := by
  refine Met.ofW (cc := cX2_isHelper) (maxL := 2) (ret := (some .boolean)) (by decide) rfl ?_
  intro p e s m args below meth c s₁ B hml hv
  obtain ⟨rfl, hsz, hR, hE⟩ := hv
  have hx := B.exec
  have hb := B.bytes
  have hr := B.returns
  have hts := atoms_spec (ws := wsX2_isHelper) B.pre
  have hown : s.vm.findClass RX2 = some m.cls := findClass_of_methodNamed B.named
  have hlocks := B.notSynchronized
  subst hsz
  have hK := hE.1
  have hA : ∀ q, s.heap.size ≤ q → kA M0 s.heap.size q := kA.new
  have hS : va_S (kA M0 s.heap.size) s.heap s.heap [] := va_S.rf
  have hw1 := hts (.fieldLink RX2 9 "ForkedStamps$State" "shares" "[I") (by decide +kernel)
  have hl := lv_entry ([.ref p0, .int p1]) (n := 2) (Nat.le_of_ble_eq_true rfl)
  rw [lg_entry_eq]
  generalize (lg_sl ([.ref p0, .int p1]) ++ List.replicate (2 - (lg_sl ([.ref p0, .int p1])).length) Slot.unset).toArray = ls at hl ⊢
  have hl : lv_has ls 2 [(0, .ref p0), (1, .int p1)] := hl
  have hR0 := hR
  refine lv_iload_n hx hb dX2_isHelper_0 rfl (lv_at hl 1 rfl) ?_
  obtain ⟨ha, hb2⟩ := h
  refine lv_if_lt (tgt := 23) hx hb dX2_isHelper_1 (by decide) (fun hc => ?_) (fun hc => ?_)
  · replace h := ha hc
    refine lv_iconst (v := (0 : Int32)) hx hb dX2_isHelper_23 (by decide) ?_
    exact k_reti hx hb hr hlocks (by decide) hR hS h dX2_isHelper_24
  · replace h := hb2 hc
    refine lv_iload_n hx hb dX2_isHelper_4 rfl (lv_at hl 1 rfl) ?_
    refine lv_bipush (v := (8 : Int32)) hx hb dX2_isHelper_5 (by decide) ?_
    obtain ⟨ha, hb2⟩ := h
    refine lv_icmp_ge (tgt := 23) hx hb dX2_isHelper_7 (by decide) (fun hc => ?_) (fun hc => ?_)
    · replace h := ha hc
      refine lv_iconst (v := (0 : Int32)) hx hb dX2_isHelper_23 (by decide) ?_
      exact k_reti hx hb hr hlocks (by decide) hR hS h dX2_isHelper_24
    · replace h := hb2 hc
      refine lv_aload_n hx hb dX2_isHelper_10 rfl (lv_at hl 0 rfl) ?_
      obtain ⟨fs1, v2, hm3, hv4, h⟩ := h
      refine k_get (ci := 3) (C := RX2) (T := TX2) (N := 7) hx hb hts in_X2_isHelper_X2 hown hK hR hm3 rfl 0 (by decide) hw1 (fun _ h9 => h9) hv4 dX2_isHelper_11 ?_
      refine lv_iload_n hx hb dX2_isHelper_14 rfl (lv_at hl 1 rfl) ?_
      obtain ⟨n5, f6, hm7, hv8, h⟩ := h
      refine k_iald hx hb hK hR hm7 hv8 dX2_isHelper_15 ?_
      obtain ⟨ha, hb2⟩ := h
      refine lv_if_eq (tgt := 23) hx hb dX2_isHelper_16 (by decide) (fun hc => ?_) (fun hc => ?_)
      · replace h := ha hc
        refine lv_iconst (v := (0 : Int32)) hx hb dX2_isHelper_23 (by decide) ?_
        exact k_reti hx hb hr hlocks (by decide) hR hS h dX2_isHelper_24
      · replace h := hb2 hc
        refine lv_iconst (v := (1 : Int32)) hx hb dX2_isHelper_19 (by decide) ?_
        refine lv_goto (tgt := 24) hx hb dX2_isHelper_20 (by decide) ?_
        exact k_reti hx hb hr hlocks (by decide) hR hS h dX2_isHelper_24

def wp_X2_isMessage (G : k_G) (post : Int32 → k_M → Prop) (p0 : Nat) (p1 : Int32) (M0 : k_M) : Prop :=
  ((p1 < 0 →
  post (0 : Int32) M0) ∧
  (¬ p1 < 0 →
  (∃ fs1 v2, M0 p0 = some (kO 3 fs1) ∧ fs1[4]? = some (.int v2) ∧
    ((v2 ≤ p1 →
    post (0 : Int32) M0) ∧
    (¬ v2 ≤ p1 →
    post (1 : Int32) M0)))))
theorem in_X2_isMessage_X2 : ∀ w ∈ wsX20, w ∈ wsX2_isMessage := by decide +kernel
set_option maxHeartbeats 4000000 in
set_option maxRecDepth 100000 in
theorem c_X2_isMessage (l : Launch) (G : k_G) (M0 : k_M) (sz : Nat) (post : Int32 → k_M → Prop) (p0 : Nat) (p1 : Int32) (h : wp_X2_isMessage G post p0 p1 M0) : Met l yX2_isMessage wsX2_isMessage ({ frames := 0, cells := 0, slots := 0, locals := 0 }) (va_Pc [.ref p0, .int p1] (kPre G M0 sz)) (va_Qi post (kB G M0 sz) (kA M0 sz)) 0 0 (kA M0 sz) := by
  refine Met.ofW (cc := cX2_isMessage) (maxL := 2) (ret := (some .boolean)) (by decide) rfl ?_
  intro p e s m args below meth c s₁ B hml hv
  obtain ⟨rfl, hsz, hR, hE⟩ := hv
  have hx := B.exec
  have hb := B.bytes
  have hr := B.returns
  have hts := atoms_spec (ws := wsX2_isMessage) B.pre
  have hown : s.vm.findClass RX2 = some m.cls := findClass_of_methodNamed B.named
  have hlocks := B.notSynchronized
  subst hsz
  have hK := hE.1
  have hA : ∀ q, s.heap.size ≤ q → kA M0 s.heap.size q := kA.new
  have hS : va_S (kA M0 s.heap.size) s.heap s.heap [] := va_S.rf
  have hw1 := hts (.fieldLink RX2 41 "ForkedStamps$State" "messageCount" "I") (by decide +kernel)
  have hl := lv_entry ([.ref p0, .int p1]) (n := 2) (Nat.le_of_ble_eq_true rfl)
  rw [lg_entry_eq]
  generalize (lg_sl ([.ref p0, .int p1]) ++ List.replicate (2 - (lg_sl ([.ref p0, .int p1])).length) Slot.unset).toArray = ls at hl ⊢
  have hl : lv_has ls 2 [(0, .ref p0), (1, .int p1)] := hl
  have hR0 := hR
  refine lv_iload_n hx hb dX2_isMessage_0 rfl (lv_at hl 1 rfl) ?_
  obtain ⟨ha, hb2⟩ := h
  refine lv_if_lt (tgt := 16) hx hb dX2_isMessage_1 (by decide) (fun hc => ?_) (fun hc => ?_)
  · replace h := ha hc
    refine lv_iconst (v := (0 : Int32)) hx hb dX2_isMessage_16 (by decide) ?_
    exact k_reti hx hb hr hlocks (by decide) hR hS h dX2_isMessage_17
  · replace h := hb2 hc
    refine lv_iload_n hx hb dX2_isMessage_4 rfl (lv_at hl 1 rfl) ?_
    refine lv_aload_n hx hb dX2_isMessage_5 rfl (lv_at hl 0 rfl) ?_
    obtain ⟨fs1, v2, hm3, hv4, h⟩ := h
    refine k_get (ci := 3) (C := RX2) (T := TX2) (N := 7) hx hb hts in_X2_isMessage_X2 hown hK hR hm3 rfl 4 (by decide) hw1 (fun _ h9 => h9) hv4 dX2_isMessage_6 ?_
    obtain ⟨ha, hb2⟩ := h
    refine lv_icmp_ge (tgt := 16) hx hb dX2_isMessage_9 (by decide) (fun hc => ?_) (fun hc => ?_)
    · replace h := ha hc
      refine lv_iconst (v := (0 : Int32)) hx hb dX2_isMessage_16 (by decide) ?_
      exact k_reti hx hb hr hlocks (by decide) hR hS h dX2_isMessage_17
    · replace h := hb2 hc
      refine lv_iconst (v := (1 : Int32)) hx hb dX2_isMessage_12 (by decide) ?_
      refine lv_goto (tgt := 17) hx hb dX2_isMessage_13 (by decide) ?_
      exact k_reti hx hb hr hlocks (by decide) hR hS h dX2_isMessage_17

def wp_X2_isEvent (G : k_G) (post : Int32 → k_M → Prop) (p0 : Nat) (p1 : Int32) (M0 : k_M) : Prop :=
  ((p1 < 0 →
  post (0 : Int32) M0) ∧
  (¬ p1 < 0 →
  (∃ fs1 v2, M0 p0 = some (kO 3 fs1) ∧ fs1[6]? = some (.int v2) ∧
    ((v2 ≤ p1 →
    post (0 : Int32) M0) ∧
    (¬ v2 ≤ p1 →
    post (1 : Int32) M0)))))
theorem in_X2_isEvent_X2 : ∀ w ∈ wsX20, w ∈ wsX2_isEvent := by decide +kernel
set_option maxHeartbeats 4000000 in
set_option maxRecDepth 100000 in
theorem c_X2_isEvent (l : Launch) (G : k_G) (M0 : k_M) (sz : Nat) (post : Int32 → k_M → Prop) (p0 : Nat) (p1 : Int32) (h : wp_X2_isEvent G post p0 p1 M0) : Met l yX2_isEvent wsX2_isEvent ({ frames := 0, cells := 0, slots := 0, locals := 0 }) (va_Pc [.ref p0, .int p1] (kPre G M0 sz)) (va_Qi post (kB G M0 sz) (kA M0 sz)) 0 0 (kA M0 sz) := by
  refine Met.ofW (cc := cX2_isEvent) (maxL := 2) (ret := (some .boolean)) (by decide) rfl ?_
  intro p e s m args below meth c s₁ B hml hv
  obtain ⟨rfl, hsz, hR, hE⟩ := hv
  have hx := B.exec
  have hb := B.bytes
  have hr := B.returns
  have hts := atoms_spec (ws := wsX2_isEvent) B.pre
  have hown : s.vm.findClass RX2 = some m.cls := findClass_of_methodNamed B.named
  have hlocks := B.notSynchronized
  subst hsz
  have hK := hE.1
  have hA : ∀ q, s.heap.size ≤ q → kA M0 s.heap.size q := kA.new
  have hS : va_S (kA M0 s.heap.size) s.heap s.heap [] := va_S.rf
  have hw1 := hts (.fieldLink RX2 45 "ForkedStamps$State" "eventCount" "I") (by decide +kernel)
  have hl := lv_entry ([.ref p0, .int p1]) (n := 2) (Nat.le_of_ble_eq_true rfl)
  rw [lg_entry_eq]
  generalize (lg_sl ([.ref p0, .int p1]) ++ List.replicate (2 - (lg_sl ([.ref p0, .int p1])).length) Slot.unset).toArray = ls at hl ⊢
  have hl : lv_has ls 2 [(0, .ref p0), (1, .int p1)] := hl
  have hR0 := hR
  refine lv_iload_n hx hb dX2_isEvent_0 rfl (lv_at hl 1 rfl) ?_
  obtain ⟨ha, hb2⟩ := h
  refine lv_if_lt (tgt := 16) hx hb dX2_isEvent_1 (by decide) (fun hc => ?_) (fun hc => ?_)
  · replace h := ha hc
    refine lv_iconst (v := (0 : Int32)) hx hb dX2_isEvent_16 (by decide) ?_
    exact k_reti hx hb hr hlocks (by decide) hR hS h dX2_isEvent_17
  · replace h := hb2 hc
    refine lv_iload_n hx hb dX2_isEvent_4 rfl (lv_at hl 1 rfl) ?_
    refine lv_aload_n hx hb dX2_isEvent_5 rfl (lv_at hl 0 rfl) ?_
    obtain ⟨fs1, v2, hm3, hv4, h⟩ := h
    refine k_get (ci := 3) (C := RX2) (T := TX2) (N := 7) hx hb hts in_X2_isEvent_X2 hown hK hR hm3 rfl 6 (by decide) hw1 (fun _ h9 => h9) hv4 dX2_isEvent_6 ?_
    obtain ⟨ha, hb2⟩ := h
    refine lv_icmp_ge (tgt := 16) hx hb dX2_isEvent_9 (by decide) (fun hc => ?_) (fun hc => ?_)
    · replace h := ha hc
      refine lv_iconst (v := (0 : Int32)) hx hb dX2_isEvent_16 (by decide) ?_
      exact k_reti hx hb hr hlocks (by decide) hR hS h dX2_isEvent_17
    · replace h := hb2 hc
      refine lv_iconst (v := (1 : Int32)) hx hb dX2_isEvent_12 (by decide) ?_
      refine lv_goto (tgt := 17) hx hb dX2_isEvent_13 (by decide) ?_
      exact k_reti hx hb hr hlocks (by decide) hR hS h dX2_isEvent_17

def wp_X2_stampOf (G : k_G) (post : Option Nat → k_M → Prop) (p0 : Nat) (p1 : Int32) (p2 : Int32) (M0 : k_M) : Prop :=
  ((¬ p1 = 0 →
  (∃ fs4, M0 p0 = some (kO 3 fs4) ∧ wp_X2_isMessage G (fun r1 M2 =>
    ((r1 = 0 →
    post none M2) ∧
    (¬ r1 = 0 →
    (∃ fs5 v6, M2 p0 = some (kO 3 fs5) ∧ fs5[2]? = some (.ref v6) ∧
      (∃ n9 f10 v11, M2 v6 = some (kO1 G n9 f10) ∧ vp_in p2 n9 ∧ f10 (p2).toNatClampNeg = some v11 ∧
      post (some v11) M2))))) p0 p2 M0)) ∧
  (p1 = 0 →
  (∃ fs18, M0 p0 = some (kO 3 fs18) ∧ wp_X2_isHelper G (fun r15 M16 =>
    ((r15 = 0 →
    post none M16) ∧
    (¬ r15 = 0 →
    (∃ fs19 v20, M16 p0 = some (kO 3 fs19) ∧ fs19[1]? = some (.ref v20) ∧
      (∃ n23 f24 v25, M16 v20 = some (kO1 G n23 f24) ∧ vp_in p2 n23 ∧ f24 (p2).toNatClampNeg = some v25 ∧
      post (some v25) M16))))) p0 p2 M0)))
theorem in_X2_stampOf_X2 : ∀ w ∈ wsX20, w ∈ wsX2_stampOf := by decide +kernel
set_option maxHeartbeats 4000000 in
set_option maxRecDepth 100000 in
theorem c_X2_stampOf (l : Launch) (G : k_G) (M0 : k_M) (sz : Nat) (post : Option Nat → k_M → Prop) (p0 : Nat) (p1 : Int32) (p2 : Int32) (h : wp_X2_stampOf G post p0 p1 p2 M0) : Met l yX2_stampOf wsX2_stampOf ({ frames := 1, cells := 0, slots := 0, locals := 21 }) (va_Pc [.ref p0, .int p1, .int p2] (kPre G M0 sz)) (va_Qq post (kB G M0 sz) (kA M0 sz)) 0 0 (kA M0 sz) := by
  refine Met.ofW (cc := cX2_stampOf) (maxL := 3) (ret := (some (.object "ForkedStamps$Stamp"))) (by decide) rfl ?_
  intro p e s m args below meth c s₁ B hml hv
  obtain ⟨rfl, hsz, hR, hE⟩ := hv
  have hx := B.exec
  have hb := B.bytes
  have hr := B.returns
  have hts := atoms_spec (ws := wsX2_stampOf) B.pre
  have hown : s.vm.findClass RX2 = some m.cls := findClass_of_methodNamed B.named
  have hlocks := B.notSynchronized
  subst hsz
  have hK := hE.1
  have hA : ∀ q, s.heap.size ≤ q → kA M0 s.heap.size q := kA.new
  have hS : va_S (kA M0 s.heap.size) s.heap s.heap [] := va_S.rf
  have hw1 := hts (.fieldLink RX2 21 "ForkedStamps$State" "messages" "[LForkedStamps$Stamp;") (by decide +kernel)
  have hw2 := hts (.fieldLink RX2 17 "ForkedStamps$State" "helpers" "[LForkedStamps$Stamp;") (by decide +kernel)
  have hl := lv_entry ([.ref p0, .int p1, .int p2]) (n := 3) (Nat.le_of_ble_eq_true rfl)
  rw [lg_entry_eq]
  generalize (lg_sl ([.ref p0, .int p1, .int p2]) ++ List.replicate (3 - (lg_sl ([.ref p0, .int p1, .int p2])).length) Slot.unset).toArray = ls at hl ⊢
  have hl : lv_has ls 3 [(0, .ref p0), (1, .int p1), (2, .int p2)] := hl
  have hR0 := hR
  refine lv_iload_n hx hb dX2_stampOf_0 rfl (lv_at hl 1 rfl) ?_
  obtain ⟨ha, hb2⟩ := h
  refine lv_if_ne (tgt := 23) hx hb dX2_stampOf_1 (by decide) (fun hc => ?_) (fun hc => ?_)
  · replace h := ha hc
    refine lv_aload_n hx hb dX2_stampOf_23 rfl (lv_at hl 0 rfl) ?_
    refine lv_iload_n hx hb dX2_stampOf_24 rfl (lv_at hl 2 rfl) ?_
    obtain ⟨fs4, hm3, h⟩ := h
    refine k_calli0 (va_runV (As := [.int p2]) (rest := []) ⟨hx, hb, hml, hown, hts⟩ (c_X2_isMessage l G _ _ _ p0 p2 h) (cwV 1 hts gX2_stampOf_X2_isMessage rfl rfl rfl (by decide +kernel) ⟨Nat.le_of_ble_eq_true rfl, Nat.le_of_ble_eq_true rfl⟩) (k_preV (q := (RX2, TX2, 7)) hm3 rfl hR hS hA hE) rfl rfl hl.1 rfl (lv_room (Nat.le_of_ble_eq_true rfl)) dX2_stampOf_25 ⟨Nat.zero_le _, Nat.zero_le _⟩) hR hS hA (fun r1 M2 H locs h hR hS => ?_)
    obtain ⟨ha, hb2⟩ := h
    refine lv_if_eq (tgt := 40) hx hb dX2_stampOf_28 (by decide) (fun hc => ?_) (fun hc => ?_)
    · replace h := ha hc
      refine lv_null hx hb dX2_stampOf_40 ?_
      exact k_retn hx hb hr (by first | exact Or.inl ⟨_, rfl⟩ | exact Or.inr ⟨_, rfl⟩) hlocks hR hS h dX2_stampOf_41
    · replace h := hb2 hc
      refine lv_aload_n hx hb dX2_stampOf_31 rfl (lv_at hl 0 rfl) ?_
      obtain ⟨fs5, v6, hm7, hv8, h⟩ := h
      refine k_get (ci := 3) (C := RX2) (T := TX2) (N := 7) hx hb hts in_X2_stampOf_X2 hown hK hR hm7 rfl 2 (by decide) hw1 (fun _ h9 => h9) hv8 dX2_stampOf_32 ?_
      refine lv_iload_n hx hb dX2_stampOf_35 rfl (lv_at hl 2 rfl) ?_
      obtain ⟨n9, f10, v11, hm12, hv13, hq14, h⟩ := h
      refine k_ald1 hx hb hK hR hm12 hv13 hq14 dX2_stampOf_36 ?_
      refine lv_goto (tgt := 41) hx hb dX2_stampOf_37 (by decide) ?_
      exact k_retq hx hb hr (by first | exact Or.inl ⟨_, rfl⟩ | exact Or.inr ⟨_, rfl⟩) hlocks hR hS h dX2_stampOf_41
  · replace h := hb2 hc
    refine lv_aload_n hx hb dX2_stampOf_4 rfl (lv_at hl 0 rfl) ?_
    refine lv_iload_n hx hb dX2_stampOf_5 rfl (lv_at hl 2 rfl) ?_
    obtain ⟨fs18, hm17, h⟩ := h
    refine k_calli0 (va_runV (As := [.int p2]) (rest := []) ⟨hx, hb, hml, hown, hts⟩ (c_X2_isHelper l G _ _ _ p0 p2 h) (cwV 1 hts gX2_stampOf_X2_isHelper rfl rfl rfl (by decide +kernel) ⟨Nat.le_of_ble_eq_true rfl, Nat.le_of_ble_eq_true rfl⟩) (k_preV (q := (RX2, TX2, 7)) hm17 rfl hR hS hA hE) rfl rfl hl.1 rfl (lv_room (Nat.le_of_ble_eq_true rfl)) dX2_stampOf_6 ⟨Nat.zero_le _, Nat.zero_le _⟩) hR hS hA (fun r15 M16 H locs h hR hS => ?_)
    obtain ⟨ha, hb2⟩ := h
    refine lv_if_eq (tgt := 21) hx hb dX2_stampOf_9 (by decide) (fun hc => ?_) (fun hc => ?_)
    · replace h := ha hc
      refine lv_null hx hb dX2_stampOf_21 ?_
      exact k_retn hx hb hr (by first | exact Or.inl ⟨_, rfl⟩ | exact Or.inr ⟨_, rfl⟩) hlocks hR hS h dX2_stampOf_22
    · replace h := hb2 hc
      refine lv_aload_n hx hb dX2_stampOf_12 rfl (lv_at hl 0 rfl) ?_
      obtain ⟨fs19, v20, hm21, hv22, h⟩ := h
      refine k_get (ci := 3) (C := RX2) (T := TX2) (N := 7) hx hb hts in_X2_stampOf_X2 hown hK hR hm21 rfl 1 (by decide) hw2 (fun _ h9 => h9) hv22 dX2_stampOf_13 ?_
      refine lv_iload_n hx hb dX2_stampOf_16 rfl (lv_at hl 2 rfl) ?_
      obtain ⟨n23, f24, v25, hm26, hv27, hq28, h⟩ := h
      refine k_ald1 hx hb hK hR hm26 hv27 hq28 dX2_stampOf_17 ?_
      refine lv_goto (tgt := 22) hx hb dX2_stampOf_18 (by decide) ?_
      exact k_retq hx hb hr (by first | exact Or.inl ⟨_, rfl⟩ | exact Or.inr ⟨_, rfl⟩) hlocks hR hS h dX2_stampOf_22

def wp_X2_lowestFreeHelper_L2 (G : k_G) (post : Int32 → k_M → Prop) : Nat → Nat → Int32 → k_M → Prop
  | 0 => fun _ _ _ => False
  | n + 1 => fun x0 x1 M =>
  (((8 : Int32) ≤ x1 →
      post (-6 : Int32) M) ∧
      (¬ (8 : Int32) ≤ x1 →
      (∃ fs5, M x0 = some (kO 3 fs5) ∧ wp_X2_isHelper G (fun r2 M3 =>
        ((¬ r2 = 0 →
        (wp_X2_lowestFreeHelper_L2 G post n) x0 (x1 + (1 : Int32)) M3) ∧
        (r2 = 0 →
        post x1 M3))) x0 x1 M)))
def wp_X2_lowestFreeHelper (G : k_G) (post : Int32 → k_M → Prop) (p0 : Nat) (M0 : k_M) : Prop :=
  ∃ k1, wp_X2_lowestFreeHelper_L2 G post k1 p0 (0 : Int32) M0
set_option maxHeartbeats 4000000 in
set_option maxRecDepth 100000 in
theorem c_X2_lowestFreeHelper (l : Launch) (G : k_G) (M0 : k_M) (sz : Nat) (post : Int32 → k_M → Prop) (p0 : Nat) (h : wp_X2_lowestFreeHelper G post p0 M0) : Met l yX2_lowestFreeHelper wsX2_lowestFreeHelper ({ frames := 1, cells := 0, slots := 0, locals := 21 }) (va_Pc [.ref p0] (kPre G M0 sz)) (va_Qi post (kB G M0 sz) (kA M0 sz)) 0 0 (kA M0 sz) := by
  refine Met.ofW (cc := cX2_lowestFreeHelper) (maxL := 2) (ret := (some .int)) (by decide) rfl ?_
  intro p e s m args below meth c s₁ B hml hv
  obtain ⟨rfl, hsz, hR, hE⟩ := hv
  have hx := B.exec
  have hb := B.bytes
  have hr := B.returns
  have hts := atoms_spec (ws := wsX2_lowestFreeHelper) B.pre
  have hown : s.vm.findClass RX2 = some m.cls := findClass_of_methodNamed B.named
  have hlocks := B.notSynchronized
  subst hsz
  have hK := hE.1
  have hA : ∀ q, s.heap.size ≤ q → kA M0 s.heap.size q := kA.new
  have hS : va_S (kA M0 s.heap.size) s.heap s.heap [] := va_S.rf
  have L2 : ∀ (n : Nat), ∀ (x0 : Nat) (x1 : Int32) (M : k_M) (H : Heap) (locs : List Loc) (ls : Array Slot), wp_X2_lowestFreeHelper_L2 G post n x0 x1 M → lv_has ls 2 [(0, .ref x0), (1, .int x1)] → kR G M (kA M0 s.heap.size) H → va_S (kA M0 s.heap.size) s.heap H locs → W p l e (headSpec wsX2_lowestFreeHelper ({ frames := 1, cells := 0, slots := 0, locals := 21 })).room s m ([.ref p0] : List Value).toArray below meth c H locs 0 0 (MQ below (va_Qi post (kB G M0 s.heap.size) (kA M0 s.heap.size)) ([.ref p0] : List Value).toArray s 0 0 (kA M0 s.heap.size)) (F0 m 2 ls []) := by
    intro n
    induction n with
    | zero =>
      intro  x0 x1 M H locs ls h
      exact False.elim h
    | succ n ih =>
      intro  x0 x1 M H locs ls h hl hR hS
      refine lv_iload_n hx hb dX2_lowestFreeHelper_2 rfl (lv_at hl 1 rfl) ?_
      refine lv_bipush (v := (8 : Int32)) hx hb dX2_lowestFreeHelper_3 (by decide) ?_
      obtain ⟨ha, hb2⟩ := h
      refine lv_icmp_ge (tgt := 24) hx hb dX2_lowestFreeHelper_5 (by decide) (fun hc => ?_) (fun hc => ?_)
      · replace h := ha hc
        refine lv_bipush (v := (-6 : Int32)) hx hb dX2_lowestFreeHelper_24 (by decide) ?_
        exact k_reti hx hb hr hlocks rfl hR hS h dX2_lowestFreeHelper_26
      · replace h := hb2 hc
        refine lv_aload_n hx hb dX2_lowestFreeHelper_8 rfl (lv_at hl 0 rfl) ?_
        refine lv_iload_n hx hb dX2_lowestFreeHelper_9 rfl (lv_at hl 1 rfl) ?_
        obtain ⟨fs5, hm4, h⟩ := h
        refine k_calli0 (va_runV (As := [.int x1]) (rest := []) ⟨hx, hb, hml, hown, hts⟩ (c_X2_isHelper l G _ _ _ x0 x1 h) (cwV 1 hts gX2_lowestFreeHelper_X2_isHelper rfl rfl rfl (by decide +kernel) ⟨Nat.le_of_ble_eq_true rfl, Nat.le_of_ble_eq_true rfl⟩) (k_preV (q := (RX2, TX2, 7)) hm4 rfl hR hS hA hE) rfl rfl hl.1 rfl (lv_room (Nat.le_of_ble_eq_true rfl)) dX2_lowestFreeHelper_10 ⟨Nat.zero_le _, Nat.zero_le _⟩) hR hS hA (fun r2 M3 H locs h hR hS => ?_)
        obtain ⟨ha, hb2⟩ := h
        refine lv_if_ne (tgt := 18) hx hb dX2_lowestFreeHelper_13 (by decide) (fun hc => ?_) (fun hc => ?_)
        · replace h := ha hc
          refine lv_iinc (v := (x1 + (1 : Int32))) (lv' := [(1, .int (x1 + (1 : Int32))), (0, .ref x0)]) hx hb dX2_lowestFreeHelper_18 hl (k := 1) rfl rfl (by decide) rfl (fun ls hl => ?_)
          refine lv_goto (tgt := 2) hx hb dX2_lowestFreeHelper_21 (by decide) ?_
          exact ih _ _ _ _ _ _ h (lv_sub hl [1, 0] rfl) hR hS
        · replace h := hb2 hc
          refine lv_iload_n hx hb dX2_lowestFreeHelper_16 rfl (lv_at hl 1 rfl) ?_
          exact k_reti hx hb hr hlocks rfl hR hS h dX2_lowestFreeHelper_17
  have hl := lv_entry ([.ref p0]) (n := 2) (Nat.le_of_ble_eq_true rfl)
  rw [lg_entry_eq]
  generalize (lg_sl ([.ref p0]) ++ List.replicate (2 - (lg_sl ([.ref p0])).length) Slot.unset).toArray = ls at hl ⊢
  have hl : lv_has ls 2 [(0, .ref p0)] := hl
  have hR0 := hR
  refine lv_iconst (v := (0 : Int32)) hx hb dX2_lowestFreeHelper_0 (by decide) ?_
  refine lv_istore_n (lv' := [(1, .int (0 : Int32)), (0, .ref p0)]) hx hb dX2_lowestFreeHelper_1 rfl hl (by decide) rfl (fun ls hl => ?_)
  obtain ⟨k1, h⟩ := h
  exact L2 k1 _ _ _ _ _ _ h (lv_sub hl [1, 0] rfl) hR hS

def wp_X2_lowestCells_L4 (G : k_G) (post : Int32 → k_M → Prop) : Nat → Int32 → Int32 → Int32 → Int32 → k_M → Prop
  | 0 => fun _ _ _ _ _ => False
  | n + 1 => fun x0 x1 x2 x3 M =>
  (((16 : Int32) ≤ x3 →
      post x2 M) ∧
      (¬ (16 : Int32) ≤ x3 →
      wp_J6_bitCount_0f7a4 G (fun r2 M3 =>
        ((x1 ≤ r2 →
        (wp_X2_lowestCells_L4 G post n) x0 x1 x2 (x3 + (1 : Int32)) M3) ∧
        (¬ x1 ≤ r2 →
        (∀ y5 : Int32, y5 = (x2 ||| (x0 &&& ((1 : Int32) <<< (x3 &&& 31)))) →
          (wp_X2_lowestCells_L4 G post n) x0 x1 y5 (x3 + (1 : Int32)) M3)))) x2 M))
def wp_X2_lowestCells (G : k_G) (post : Int32 → k_M → Prop) (p0 : Int32) (p1 : Int32) (M0 : k_M) : Prop :=
  ∃ k1, wp_X2_lowestCells_L4 G post k1 p0 p1 (0 : Int32) (0 : Int32) M0
set_option maxHeartbeats 4000000 in
set_option maxRecDepth 100000 in
theorem c_X2_lowestCells (l : Launch) (G : k_G) (M0 : k_M) (sz : Nat) (post : Int32 → k_M → Prop) (p0 : Int32) (p1 : Int32) (h : wp_X2_lowestCells G post p0 p1 M0) : Met l yX2_lowestCells wsX2_lowestCells ({ frames := 1, cells := 0, slots := 0, locals := 20 }) (va_Pc [.int p0, .int p1] (kPre G M0 sz)) (va_Qi post (kB G M0 sz) (kA M0 sz)) 0 0 (kA M0 sz) := by
  refine Met.ofW (cc := cX2_lowestCells) (maxL := 4) (ret := (some .int)) (by decide) rfl ?_
  intro p e s m args below meth c s₁ B hml hv
  obtain ⟨rfl, hsz, hR, hE⟩ := hv
  have hx := B.exec
  have hb := B.bytes
  have hr := B.returns
  have hts := atoms_spec (ws := wsX2_lowestCells) B.pre
  have hown : s.vm.findClass RX2 = some m.cls := findClass_of_methodNamed B.named
  have hlocks := B.notSynchronized
  subst hsz
  have hK := hE.1
  have hA : ∀ q, s.heap.size ≤ q → kA M0 s.heap.size q := kA.new
  have hS : va_S (kA M0 s.heap.size) s.heap s.heap [] := va_S.rf
  have L4 : ∀ (n : Nat), ∀ (x0 : Int32) (x1 : Int32) (x2 : Int32) (x3 : Int32) (M : k_M) (H : Heap) (locs : List Loc) (ls : Array Slot), wp_X2_lowestCells_L4 G post n x0 x1 x2 x3 M → lv_has ls 4 [(0, .int x0), (1, .int x1), (2, .int x2), (3, .int x3)] → kR G M (kA M0 s.heap.size) H → va_S (kA M0 s.heap.size) s.heap H locs → W p l e (headSpec wsX2_lowestCells ({ frames := 1, cells := 0, slots := 0, locals := 20 })).room s m ([.int p0, .int p1] : List Value).toArray below meth c H locs 0 0 (MQ below (va_Qi post (kB G M0 s.heap.size) (kA M0 s.heap.size)) ([.int p0, .int p1] : List Value).toArray s 0 0 (kA M0 s.heap.size)) (F0 m 4 ls []) := by
    intro n
    induction n with
    | zero =>
      intro  x0 x1 x2 x3 M H locs ls h
      exact False.elim h
    | succ n ih =>
      intro  x0 x1 x2 x3 M H locs ls h hl hR hS
      refine lv_iload_n hx hb dX2_lowestCells_4 rfl (lv_at hl 3 rfl) ?_
      refine lv_bipush (v := (16 : Int32)) hx hb dX2_lowestCells_5 (by decide) ?_
      obtain ⟨ha, hb2⟩ := h
      refine lv_icmp_ge (tgt := 32) hx hb dX2_lowestCells_7 (by decide) (fun hc => ?_) (fun hc => ?_)
      · replace h := ha hc
        refine lv_iload_n hx hb dX2_lowestCells_32 rfl (lv_at hl 2 rfl) ?_
        exact k_reti hx hb hr hlocks rfl hR hS h dX2_lowestCells_33
      · replace h := hb2 hc
        refine lv_iload_n hx hb dX2_lowestCells_10 rfl (lv_at hl 2 rfl) ?_
        refine k_calli0 (va_runS (As := [.int x2]) (rest := []) ⟨hx, hb, hml, hown, hts⟩ (c_J6_bitCount_0f7a4 l G _ _ _ x2 h) (va_cwS 1 hts gX2_lowestCells_J6_bitCount_0f7a4 rfl rfl rfl (by decide +kernel) ⟨Nat.le_of_ble_eq_true rfl, Nat.le_of_ble_eq_true rfl⟩) (k_preS hR hS hA hE) rfl rfl hl.1 rfl (lv_room (Nat.le_of_ble_eq_true rfl)) dX2_lowestCells_11 ⟨Nat.zero_le _, Nat.zero_le _⟩) hR hS hA (fun r2 M3 H locs h hR hS => ?_)
        refine lv_iload_n hx hb dX2_lowestCells_14 rfl (lv_at hl 1 rfl) ?_
        obtain ⟨ha, hb2⟩ := h
        refine lv_icmp_ge (tgt := 26) hx hb dX2_lowestCells_15 (by decide) (fun hc => ?_) (fun hc => ?_)
        · replace h := ha hc
          refine lv_iinc (v := (x3 + (1 : Int32))) (lv' := [(3, .int (x3 + (1 : Int32))), (0, .int x0), (1, .int x1), (2, .int x2)]) hx hb dX2_lowestCells_26 hl (k := 3) rfl rfl (by decide) rfl (fun ls hl => ?_)
          refine lv_goto (tgt := 4) hx hb dX2_lowestCells_29 (by decide) ?_
          exact ih _ _ _ _ _ _ _ _ h (lv_sub hl [1, 2, 3, 0] rfl) hR hS
        · replace h := hb2 hc
          refine lv_iload_n hx hb dX2_lowestCells_18 rfl (lv_at hl 2 rfl) ?_
          refine lv_iload_n hx hb dX2_lowestCells_19 rfl (lv_at hl 0 rfl) ?_
          refine lv_iconst (v := (1 : Int32)) hx hb dX2_lowestCells_20 (by decide) ?_
          refine lv_iload_n hx hb dX2_lowestCells_21 rfl (lv_at hl 3 rfl) ?_
          refine lv_ishl hx hb dX2_lowestCells_22 ?_
          refine lv_iand hx hb dX2_lowestCells_23 ?_
          refine lv_ior hx hb dX2_lowestCells_24 ?_
          refine lv_topi (fun y5 ey5 => ?_)
          replace h := h y5 ey5
          refine lv_istore_n (lv' := [(2, .int y5), (0, .int x0), (1, .int x1), (3, .int x3)]) hx hb dX2_lowestCells_25 rfl hl (by decide) rfl (fun ls hl => ?_)
          refine lv_iinc (v := (x3 + (1 : Int32))) (lv' := [(3, .int (x3 + (1 : Int32))), (2, .int y5), (0, .int x0), (1, .int x1)]) hx hb dX2_lowestCells_26 hl (k := 3) rfl rfl (by decide) rfl (fun ls hl => ?_)
          refine lv_goto (tgt := 4) hx hb dX2_lowestCells_29 (by decide) ?_
          exact ih _ _ _ _ _ _ _ _ h (lv_sub hl [2, 3, 1, 0] rfl) hR hS
  have hl := lv_entry ([.int p0, .int p1]) (n := 4) (Nat.le_of_ble_eq_true rfl)
  rw [lg_entry_eq]
  generalize (lg_sl ([.int p0, .int p1]) ++ List.replicate (4 - (lg_sl ([.int p0, .int p1])).length) Slot.unset).toArray = ls at hl ⊢
  have hl : lv_has ls 4 [(0, .int p0), (1, .int p1)] := hl
  have hR0 := hR
  refine lv_iconst (v := (0 : Int32)) hx hb dX2_lowestCells_0 (by decide) ?_
  refine lv_istore_n (lv' := [(2, .int (0 : Int32)), (0, .int p0), (1, .int p1)]) hx hb dX2_lowestCells_1 rfl hl (by decide) rfl (fun ls hl => ?_)
  refine lv_iconst (v := (0 : Int32)) hx hb dX2_lowestCells_2 (by decide) ?_
  refine lv_istore_n (lv' := [(3, .int (0 : Int32)), (2, .int (0 : Int32)), (0, .int p0), (1, .int p1)]) hx hb dX2_lowestCells_3 rfl hl (by decide) rfl (fun ls hl => ?_)
  obtain ⟨k1, h⟩ := h
  exact L4 k1 _ _ _ _ _ _ _ _ h (lv_sub hl [2, 3, 1, 0] rfl) hR hS

def wp_X2_split (G : k_G) (post : k_M → Prop) (p0 : Nat) (p1 : Int32) (p2 : Int32) (M0 : k_M) : Prop :=
  (∃ fs1 v2, M0 p0 = some (kO 3 fs1) ∧ fs1[0]? = some (.ref v2) ∧
  (∃ n5 f6, M0 v2 = some (kI G n5 f6) ∧ vp_in p1 n5 ∧
  wp_J6_bitCount_0f7a4 G (fun r9 M10 =>
  wp_X2_lowestCells G (fun r12 M13 =>
  (∃ fs15 v16, M13 p0 = some (kO 3 fs15) ∧ fs15[0]? = some (.ref v16) ∧
  (∃ n19 f20, M13 v16 = some (kI G n19 f20) ∧ vp_in p1 n19 ∧ ∀ M21 : k_M, M21 = va_up M13 v16 (some (kI G n19 (upd f20 (p1).toNatClampNeg r12))) →
  (∃ fs24 v25, M21 p0 = some (kO 3 fs24) ∧ fs24[0]? = some (.ref v25) ∧
  (∃ n28 f29, M21 v25 = some (kI G n28 f29) ∧ vp_in p2 n28 ∧ ∀ M30 : k_M, M30 = va_up M21 v25 (some (kI G n28 (upd f29 (p2).toNatClampNeg ((f6 (p1).toNatClampNeg) &&& (r12 ^^^ (-1 : Int32)))))) →
  (∃ fs33 v34, M30 p0 = some (kO 3 fs33) ∧ fs33[1]? = some (.ref v34) ∧
  (∃ n37 f38 v39, M30 v34 = some (kO1 G n37 f38) ∧ vp_in p2 n37 ∧ f38 (p2).toNatClampNeg = some v39 ∧
  (∃ fs43 v44, M30 p0 = some (kO 3 fs43) ∧ fs43[1]? = some (.ref v44) ∧
  (∃ n47 f48 v49, M30 v44 = some (kO1 G n47 f48) ∧ vp_in p1 n47 ∧ f48 (p1).toNatClampNeg = some v49 ∧
  (∃ fs56, M30 v39 = some (kO 2 fs56) ∧ wp_X1_become G (fun M54 =>
  post M54) v39 v49 M30)))))))))) (f6 (p1).toNatClampNeg) ((r9 + (1 : Int32)) / (2 : Int32)) M10) (f6 (p1).toNatClampNeg) M0))
theorem in_X2_split_X2 : ∀ w ∈ wsX20, w ∈ wsX2_split := by decide +kernel
set_option maxHeartbeats 4000000 in
set_option maxRecDepth 100000 in
theorem c_X2_split (l : Launch) (G : k_G) (M0 : k_M) (sz : Nat) (post : k_M → Prop) (p0 : Nat) (p1 : Int32) (p2 : Int32) (h : wp_X2_split G post p0 p1 p2 M0) : Met l yX2_split wsX2_split ({ frames := 2, cells := 0, slots := 0, locals := 61 }) (va_Pc [.ref p0, .int p1, .int p2] (kPre G M0 sz)) (va_Qv post (kB G M0 sz) (kA M0 sz)) 0 0 (kA M0 sz) := by
  refine Met.ofW (cc := cX2_split) (maxL := 6) (ret := none) (by decide) rfl ?_
  intro p e s m args below meth c s₁ B hml hv
  obtain ⟨rfl, hsz, hR, hE⟩ := hv
  have hx := B.exec
  have hb := B.bytes
  have hr := B.returns
  have hts := atoms_spec (ws := wsX2_split) B.pre
  have hown : s.vm.findClass RX2 = some m.cls := findClass_of_methodNamed B.named
  have hlocks := B.notSynchronized
  subst hsz
  have hK := hE.1
  have hA : ∀ q, s.heap.size ≤ q → kA M0 s.heap.size q := kA.new
  have hS : va_S (kA M0 s.heap.size) s.heap s.heap [] := va_S.rf
  have hw1 := hts (.fieldLink RX2 9 "ForkedStamps$State" "shares" "[I") (by decide +kernel)
  have hw2 := hts (.fieldLink RX2 17 "ForkedStamps$State" "helpers" "[LForkedStamps$Stamp;") (by decide +kernel)
  have hl := lv_entry ([.ref p0, .int p1, .int p2]) (n := 6) (Nat.le_of_ble_eq_true rfl)
  rw [lg_entry_eq]
  generalize (lg_sl ([.ref p0, .int p1, .int p2]) ++ List.replicate (6 - (lg_sl ([.ref p0, .int p1, .int p2])).length) Slot.unset).toArray = ls at hl ⊢
  have hl : lv_has ls 6 [(0, .ref p0), (1, .int p1), (2, .int p2)] := hl
  have hR0 := hR
  refine lv_aload_n hx hb dX2_split_0 rfl (lv_at hl 0 rfl) ?_
  obtain ⟨fs1, v2, hm3, hv4, h⟩ := h
  refine k_get (ci := 3) (C := RX2) (T := TX2) (N := 7) hx hb hts in_X2_split_X2 hown hK hR hm3 rfl 0 (by decide) hw1 (fun _ h9 => h9) hv4 dX2_split_1 ?_
  refine lv_iload_n hx hb dX2_split_4 rfl (lv_at hl 1 rfl) ?_
  obtain ⟨n5, f6, hm7, hv8, h⟩ := h
  refine k_iald hx hb hK hR hm7 hv8 dX2_split_5 ?_
  refine lv_istore_n (lv' := [(3, .int (f6 (p1).toNatClampNeg)), (0, .ref p0), (1, .int p1), (2, .int p2)]) hx hb dX2_split_6 rfl hl (by decide) rfl (fun ls hl => ?_)
  refine lv_iload_n hx hb dX2_split_7 rfl (lv_at hl 0 rfl) ?_
  refine k_calli0 (va_runS (As := [.int (f6 (p1).toNatClampNeg)]) (rest := []) ⟨hx, hb, hml, hown, hts⟩ (c_J6_bitCount_0f7a4 l G _ _ _ (f6 (p1).toNatClampNeg) h) (va_cwS 1 hts gX2_split_J6_bitCount_0f7a4 rfl rfl rfl (by decide +kernel) ⟨Nat.le_of_ble_eq_true rfl, Nat.le_of_ble_eq_true rfl⟩) (k_preS hR hS hA hE) rfl rfl hl.1 rfl (lv_room (Nat.le_of_ble_eq_true rfl)) dX2_split_8 ⟨Nat.zero_le _, Nat.zero_le _⟩) hR hS hA (fun r9 M10 H locs h hR hS => ?_)
  refine lv_iconst (v := (1 : Int32)) hx hb dX2_split_11 (by decide) ?_
  refine lv_iadd hx hb dX2_split_12 ?_
  refine lv_iconst (v := (2 : Int32)) hx hb dX2_split_13 (by decide) ?_
  refine lv_idiv hx hb dX2_split_14 (by decide) ?_
  refine lv_istore (lv' := [(4, .int ((r9 + (1 : Int32)) / (2 : Int32))), (3, .int (f6 (p1).toNatClampNeg)), (0, .ref p0), (1, .int p1), (2, .int p2)]) hx hb dX2_split_15 hl (by decide) rfl (fun ls hl => ?_)
  refine lv_iload_n hx hb dX2_split_17 rfl (lv_at hl 1 rfl) ?_
  refine lv_iload hx hb dX2_split_18 (lv_at hl 0 rfl) ?_
  refine k_calli0 (va_runS (As := [.int (f6 (p1).toNatClampNeg), .int ((r9 + (1 : Int32)) / (2 : Int32))]) (rest := []) ⟨hx, hb, hml, hown, hts⟩ (c_X2_lowestCells l G _ _ _ (f6 (p1).toNatClampNeg) ((r9 + (1 : Int32)) / (2 : Int32)) h) (va_cwS 2 hts gX2_split_X2_lowestCells rfl rfl rfl (by decide +kernel) ⟨Nat.le_of_ble_eq_true rfl, Nat.le_of_ble_eq_true rfl⟩) (k_preS hR hS hA hE) rfl rfl hl.1 rfl (lv_room (Nat.le_of_ble_eq_true rfl)) dX2_split_20 ⟨Nat.zero_le _, Nat.zero_le _⟩) hR hS hA (fun r12 M13 H locs h hR hS => ?_)
  refine lv_istore (lv' := [(5, .int r12), (4, .int ((r9 + (1 : Int32)) / (2 : Int32))), (3, .int (f6 (p1).toNatClampNeg)), (0, .ref p0), (1, .int p1), (2, .int p2)]) hx hb dX2_split_23 hl (by decide) rfl (fun ls hl => ?_)
  refine lv_aload_n hx hb dX2_split_25 rfl (lv_at hl 3 rfl) ?_
  obtain ⟨fs15, v16, hm17, hv18, h⟩ := h
  refine k_get (ci := 3) (C := RX2) (T := TX2) (N := 7) hx hb hts in_X2_split_X2 hown hK hR hm17 rfl 0 (by decide) hw1 (fun _ h9 => h9) hv18 dX2_split_26 ?_
  refine lv_iload_n hx hb dX2_split_29 rfl (lv_at hl 4 rfl) ?_
  refine lv_iload hx hb dX2_split_30 (lv_at hl 0 rfl) ?_
  obtain ⟨n19, f20, hm22, hv23, h⟩ := h
  replace h := h _ rfl
  refine k_iast hx hb hK hR hS hm22 hv23 dX2_split_32 (fun H locs hR hS => ?_)
  refine lv_aload_n hx hb dX2_split_33 rfl (lv_at hl 3 rfl) ?_
  obtain ⟨fs24, v25, hm26, hv27, h⟩ := h
  refine k_get (ci := 3) (C := RX2) (T := TX2) (N := 7) hx hb hts in_X2_split_X2 hown hK hR hm26 rfl 0 (by decide) hw1 (fun _ h9 => h9) hv27 dX2_split_34 ?_
  refine lv_iload_n hx hb dX2_split_37 rfl (lv_at hl 5 rfl) ?_
  refine lv_iload_n hx hb dX2_split_38 rfl (lv_at hl 2 rfl) ?_
  refine lv_iload hx hb dX2_split_39 (lv_at hl 0 rfl) ?_
  refine lv_iconst (v := (-1 : Int32)) hx hb dX2_split_41 (by decide) ?_
  refine lv_ixor hx hb dX2_split_42 ?_
  refine lv_iand hx hb dX2_split_43 ?_
  obtain ⟨n28, f29, hm31, hv32, h⟩ := h
  replace h := h _ rfl
  refine k_iast hx hb hK hR hS hm31 hv32 dX2_split_44 (fun H locs hR hS => ?_)
  refine lv_aload_n hx hb dX2_split_45 rfl (lv_at hl 3 rfl) ?_
  obtain ⟨fs33, v34, hm35, hv36, h⟩ := h
  refine k_get (ci := 3) (C := RX2) (T := TX2) (N := 7) hx hb hts in_X2_split_X2 hown hK hR hm35 rfl 1 (by decide) hw2 (fun _ h9 => h9) hv36 dX2_split_46 ?_
  refine lv_iload_n hx hb dX2_split_49 rfl (lv_at hl 5 rfl) ?_
  obtain ⟨n37, f38, v39, hm40, hv41, hq42, h⟩ := h
  refine k_ald1 hx hb hK hR hm40 hv41 hq42 dX2_split_50 ?_
  refine lv_aload_n hx hb dX2_split_51 rfl (lv_at hl 3 rfl) ?_
  obtain ⟨fs43, v44, hm45, hv46, h⟩ := h
  refine k_get (ci := 3) (C := RX2) (T := TX2) (N := 7) hx hb hts in_X2_split_X2 hown hK hR hm45 rfl 1 (by decide) hw2 (fun _ h9 => h9) hv46 dX2_split_52 ?_
  refine lv_iload_n hx hb dX2_split_55 rfl (lv_at hl 4 rfl) ?_
  obtain ⟨n47, f48, v49, hm50, hv51, hq52, h⟩ := h
  refine k_ald1 hx hb hK hR hm50 hv51 hq52 dX2_split_56 ?_
  obtain ⟨fs56, hm55, h⟩ := h
  refine k_callv0 (va_runV (As := [.ref v49]) (rest := []) ⟨hx, hb, hml, hown, hts⟩ (c_X1_become l G _ _ _ v39 v49 h) (cwV 1 hts gX2_split_X1_become rfl rfl rfl (by decide +kernel) ⟨Nat.le_of_ble_eq_true rfl, Nat.le_of_ble_eq_true rfl⟩) (k_preV (q := (RX1, TX1, 3)) hm55 rfl hR hS hA hE) rfl rfl hl.1 rfl (lv_room (Nat.le_of_ble_eq_true rfl)) dX2_split_57 ⟨Nat.zero_le _, Nat.zero_le _⟩) hR hS hA (fun M54 H locs h hR hS => ?_)
  exact k_retv hx hb hr hlocks hR hS h dX2_split_60

def wp_X2_merge (G : k_G) (post : k_M → Prop) (p0 : Nat) (p1 : Int32) (p2 : Int32) (M0 : k_M) : Prop :=
  (∃ fs1 v2, M0 p0 = some (kO 3 fs1) ∧ fs1[1]? = some (.ref v2) ∧
  (∃ n5 f6 v7, M0 v2 = some (kO1 G n5 f6) ∧ vp_in p2 n5 ∧ f6 (p2).toNatClampNeg = some v7 ∧
  (∃ fs11 v12, M0 p0 = some (kO 3 fs11) ∧ fs11[1]? = some (.ref v12) ∧
  (∃ n15 f16 v17, M0 v12 = some (kO1 G n15 f16) ∧ vp_in p1 n15 ∧ f16 (p1).toNatClampNeg = some v17 ∧
  (∃ fs24, M0 v7 = some (kO 2 fs24) ∧ wp_X1_takeOver G (fun M22 =>
  (∃ fs25 v26, M22 p0 = some (kO 3 fs25) ∧ fs25[0]? = some (.ref v26) ∧
  (∃ n29 f30, M22 v26 = some (kI G n29 f30) ∧ vp_in p2 n29 ∧
  (∃ fs33 v34, M22 p0 = some (kO 3 fs33) ∧ fs33[0]? = some (.ref v34) ∧
  (∃ n37 f38, M22 v34 = some (kI G n37 f38) ∧ vp_in p1 n37 ∧
  (∃ n41 f42, M22 v26 = some (kI G n41 f42) ∧ vp_in p2 n41 ∧ ∀ M43 : k_M, M43 = va_up M22 v26 (some (kI G n41 (upd f42 (p2).toNatClampNeg ((f30 (p2).toNatClampNeg) ||| (f38 (p1).toNatClampNeg))))) →
  (∃ fs46 v47, M43 p0 = some (kO 3 fs46) ∧ fs46[0]? = some (.ref v47) ∧
  (∃ n50 f51, M43 v47 = some (kI G n50 f51) ∧ vp_in p1 n50 ∧ ∀ M52 : k_M, M52 = va_up M43 v47 (some (kI G n50 (upd f51 (p1).toNatClampNeg (0 : Int32)))) →
  post M52)))))))) v7 v17 M0)))))
theorem in_X2_merge_X2 : ∀ w ∈ wsX20, w ∈ wsX2_merge := by decide +kernel
set_option maxHeartbeats 4000000 in
set_option maxRecDepth 100000 in
theorem c_X2_merge (l : Launch) (G : k_G) (M0 : k_M) (sz : Nat) (post : k_M → Prop) (p0 : Nat) (p1 : Int32) (p2 : Int32) (h : wp_X2_merge G post p0 p1 p2 M0) : Met l yX2_merge wsX2_merge ({ frames := 2, cells := 0, slots := 0, locals := 39 }) (va_Pc [.ref p0, .int p1, .int p2] (kPre G M0 sz)) (va_Qv post (kB G M0 sz) (kA M0 sz)) 0 0 (kA M0 sz) := by
  refine Met.ofW (cc := cX2_merge) (maxL := 3) (ret := none) (by decide) rfl ?_
  intro p e s m args below meth c s₁ B hml hv
  obtain ⟨rfl, hsz, hR, hE⟩ := hv
  have hx := B.exec
  have hb := B.bytes
  have hr := B.returns
  have hts := atoms_spec (ws := wsX2_merge) B.pre
  have hown : s.vm.findClass RX2 = some m.cls := findClass_of_methodNamed B.named
  have hlocks := B.notSynchronized
  subst hsz
  have hK := hE.1
  have hA : ∀ q, s.heap.size ≤ q → kA M0 s.heap.size q := kA.new
  have hS : va_S (kA M0 s.heap.size) s.heap s.heap [] := va_S.rf
  have hw1 := hts (.fieldLink RX2 17 "ForkedStamps$State" "helpers" "[LForkedStamps$Stamp;") (by decide +kernel)
  have hw2 := hts (.fieldLink RX2 9 "ForkedStamps$State" "shares" "[I") (by decide +kernel)
  have hl := lv_entry ([.ref p0, .int p1, .int p2]) (n := 3) (Nat.le_of_ble_eq_true rfl)
  rw [lg_entry_eq]
  generalize (lg_sl ([.ref p0, .int p1, .int p2]) ++ List.replicate (3 - (lg_sl ([.ref p0, .int p1, .int p2])).length) Slot.unset).toArray = ls at hl ⊢
  have hl : lv_has ls 3 [(0, .ref p0), (1, .int p1), (2, .int p2)] := hl
  have hR0 := hR
  refine lv_aload_n hx hb dX2_merge_0 rfl (lv_at hl 0 rfl) ?_
  obtain ⟨fs1, v2, hm3, hv4, h⟩ := h
  refine k_get (ci := 3) (C := RX2) (T := TX2) (N := 7) hx hb hts in_X2_merge_X2 hown hK hR hm3 rfl 1 (by decide) hw1 (fun _ h9 => h9) hv4 dX2_merge_1 ?_
  refine lv_iload_n hx hb dX2_merge_4 rfl (lv_at hl 2 rfl) ?_
  obtain ⟨n5, f6, v7, hm8, hv9, hq10, h⟩ := h
  refine k_ald1 hx hb hK hR hm8 hv9 hq10 dX2_merge_5 ?_
  refine lv_aload_n hx hb dX2_merge_6 rfl (lv_at hl 0 rfl) ?_
  obtain ⟨fs11, v12, hm13, hv14, h⟩ := h
  refine k_get (ci := 3) (C := RX2) (T := TX2) (N := 7) hx hb hts in_X2_merge_X2 hown hK hR hm13 rfl 1 (by decide) hw1 (fun _ h9 => h9) hv14 dX2_merge_7 ?_
  refine lv_iload_n hx hb dX2_merge_10 rfl (lv_at hl 1 rfl) ?_
  obtain ⟨n15, f16, v17, hm18, hv19, hq20, h⟩ := h
  refine k_ald1 hx hb hK hR hm18 hv19 hq20 dX2_merge_11 ?_
  obtain ⟨fs24, hm23, h⟩ := h
  refine k_callv0 (va_runV (As := [.ref v17]) (rest := []) ⟨hx, hb, hml, hown, hts⟩ (c_X1_takeOver l G _ _ _ v7 v17 h) (cwV 1 hts gX2_merge_X1_takeOver rfl rfl rfl (by decide +kernel) ⟨Nat.le_of_ble_eq_true rfl, Nat.le_of_ble_eq_true rfl⟩) (k_preV (q := (RX1, TX1, 3)) hm23 rfl hR hS hA hE) rfl rfl hl.1 rfl (lv_room (Nat.le_of_ble_eq_true rfl)) dX2_merge_12 ⟨Nat.zero_le _, Nat.zero_le _⟩) hR hS hA (fun M22 H locs h hR hS => ?_)
  refine lv_aload_n hx hb dX2_merge_15 rfl (lv_at hl 0 rfl) ?_
  obtain ⟨fs25, v26, hm27, hv28, h⟩ := h
  refine k_get (ci := 3) (C := RX2) (T := TX2) (N := 7) hx hb hts in_X2_merge_X2 hown hK hR hm27 rfl 0 (by decide) hw2 (fun _ h9 => h9) hv28 dX2_merge_16 ?_
  refine lv_iload_n hx hb dX2_merge_19 rfl (lv_at hl 2 rfl) ?_
  refine lv_dup2_11 hx hb dX2_merge_20 rfl rfl ?_
  obtain ⟨n29, f30, hm31, hv32, h⟩ := h
  refine k_iald hx hb hK hR hm31 hv32 dX2_merge_21 ?_
  refine lv_aload_n hx hb dX2_merge_22 rfl (lv_at hl 0 rfl) ?_
  obtain ⟨fs33, v34, hm35, hv36, h⟩ := h
  refine k_get (ci := 3) (C := RX2) (T := TX2) (N := 7) hx hb hts in_X2_merge_X2 hown hK hR hm35 rfl 0 (by decide) hw2 (fun _ h9 => h9) hv36 dX2_merge_23 ?_
  refine lv_iload_n hx hb dX2_merge_26 rfl (lv_at hl 1 rfl) ?_
  obtain ⟨n37, f38, hm39, hv40, h⟩ := h
  refine k_iald hx hb hK hR hm39 hv40 dX2_merge_27 ?_
  refine lv_ior hx hb dX2_merge_28 ?_
  obtain ⟨n41, f42, hm44, hv45, h⟩ := h
  replace h := h _ rfl
  refine k_iast hx hb hK hR hS hm44 hv45 dX2_merge_29 (fun H locs hR hS => ?_)
  refine lv_aload_n hx hb dX2_merge_30 rfl (lv_at hl 0 rfl) ?_
  obtain ⟨fs46, v47, hm48, hv49, h⟩ := h
  refine k_get (ci := 3) (C := RX2) (T := TX2) (N := 7) hx hb hts in_X2_merge_X2 hown hK hR hm48 rfl 0 (by decide) hw2 (fun _ h9 => h9) hv49 dX2_merge_31 ?_
  refine lv_iload_n hx hb dX2_merge_34 rfl (lv_at hl 1 rfl) ?_
  refine lv_iconst (v := (0 : Int32)) hx hb dX2_merge_35 (by decide) ?_
  obtain ⟨n50, f51, hm53, hv54, h⟩ := h
  replace h := h _ rfl
  refine k_iast hx hb hK hR hS hm53 hv54 dX2_merge_36 (fun H locs hR hS => ?_)
  exact k_retv hx hb hr hlocks hR hS h dX2_merge_37

def wp_X2_addEvent (G : k_G) (post : Int32 → k_M → Prop) (p0 : Nat) (p1 : Int32) (M0 : k_M) : Prop :=
  (∃ fs1 v2, M0 p0 = some (kO 3 fs1) ∧ fs1[6]? = some (.int v2) ∧
  (∃ fs5 v6, M0 p0 = some (kO 3 fs5) ∧ fs5[1]? = some (.ref v6) ∧
  (∃ n9 f10 v11, M0 v6 = some (kO1 G n9 f10) ∧ vp_in p1 n9 ∧ f10 (p1).toNatClampNeg = some v11 ∧
  (∃ fs15 v16, M0 p0 = some (kO 3 fs15) ∧ fs15[0]? = some (.ref v16) ∧
  (∃ n19 f20, M0 v16 = some (kI G n19 f20) ∧ vp_in p1 n19 ∧
  (∃ fs26, M0 v11 = some (kO 2 fs26) ∧ wp_X1_raise G (fun M24 =>
  (∃ fs27 v28, M24 p0 = some (kO 3 fs27) ∧ fs27[1]? = some (.ref v28) ∧
  (∃ n31 f32 v33, M24 v28 = some (kO1 G n31 f32) ∧ vp_in p1 n31 ∧ f32 (p1).toNatClampNeg = some v33 ∧
  (∃ fs40, M24 v33 = some (kO 2 fs40) ∧ wp_X1_learn G (fun M38 =>
  (∃ fs41 v42, M38 p0 = some (kO 3 fs41) ∧ fs41[5]? = some (.ref v42) ∧
  (∃ n45 f46, M38 v42 = some (kI G n45 f46) ∧ vp_in v2 n45 ∧ ∀ M47 : k_M, M47 = va_up M38 v42 (some (kI G n45 (upd f46 (v2).toNatClampNeg p1))) →
  (∃ fs50 v51, M47 p0 = some (kO 3 fs50) ∧ fs50[6]? = some (.int v51) ∧
  (∃ fs54, M47 p0 = some (kO 3 fs54) ∧ 6 < fs54.length ∧ ∀ M55 : k_M, M55 = va_up M47 p0 (some (kO 3 (fs54.set 6 (.int (v51 + (1 : Int32)))))) →
  post v2 M55))))) v33 v2 M24)))) v11 (f20 (p1).toNatClampNeg) M0))))))
theorem in_X2_addEvent_X2 : ∀ w ∈ wsX20, w ∈ wsX2_addEvent := by decide +kernel
set_option maxHeartbeats 4000000 in
set_option maxRecDepth 100000 in
theorem c_X2_addEvent (l : Launch) (G : k_G) (M0 : k_M) (sz : Nat) (post : Int32 → k_M → Prop) (p0 : Nat) (p1 : Int32) (h : wp_X2_addEvent G post p0 p1 M0) : Met l yX2_addEvent wsX2_addEvent ({ frames := 3, cells := 0, slots := 0, locals := 68 }) (va_Pc [.ref p0, .int p1] (kPre G M0 sz)) (va_Qi post (kB G M0 sz) (kA M0 sz)) 0 0 (kA M0 sz) := by
  refine Met.ofW (cc := cX2_addEvent) (maxL := 3) (ret := (some .int)) (by decide) rfl ?_
  intro p e s m args below meth c s₁ B hml hv
  obtain ⟨rfl, hsz, hR, hE⟩ := hv
  have hx := B.exec
  have hb := B.bytes
  have hr := B.returns
  have hts := atoms_spec (ws := wsX2_addEvent) B.pre
  have hown : s.vm.findClass RX2 = some m.cls := findClass_of_methodNamed B.named
  have hlocks := B.notSynchronized
  subst hsz
  have hK := hE.1
  have hA : ∀ q, s.heap.size ≤ q → kA M0 s.heap.size q := kA.new
  have hS : va_S (kA M0 s.heap.size) s.heap s.heap [] := va_S.rf
  have hw1 := hts (.fieldLink RX2 45 "ForkedStamps$State" "eventCount" "I") (by decide +kernel)
  have hw2 := hts (.fieldLink RX2 17 "ForkedStamps$State" "helpers" "[LForkedStamps$Stamp;") (by decide +kernel)
  have hw3 := hts (.fieldLink RX2 9 "ForkedStamps$State" "shares" "[I") (by decide +kernel)
  have hw4 := hts (.fieldLink RX2 27 "ForkedStamps$State" "actors" "[I") (by decide +kernel)
  have hl := lv_entry ([.ref p0, .int p1]) (n := 3) (Nat.le_of_ble_eq_true rfl)
  rw [lg_entry_eq]
  generalize (lg_sl ([.ref p0, .int p1]) ++ List.replicate (3 - (lg_sl ([.ref p0, .int p1])).length) Slot.unset).toArray = ls at hl ⊢
  have hl : lv_has ls 3 [(0, .ref p0), (1, .int p1)] := hl
  have hR0 := hR
  refine lv_aload_n hx hb dX2_addEvent_0 rfl (lv_at hl 0 rfl) ?_
  obtain ⟨fs1, v2, hm3, hv4, h⟩ := h
  refine k_get (ci := 3) (C := RX2) (T := TX2) (N := 7) hx hb hts in_X2_addEvent_X2 hown hK hR hm3 rfl 6 (by decide) hw1 (fun _ h9 => h9) hv4 dX2_addEvent_1 ?_
  refine lv_istore_n (lv' := [(2, .int v2), (0, .ref p0), (1, .int p1)]) hx hb dX2_addEvent_4 rfl hl (by decide) rfl (fun ls hl => ?_)
  refine lv_aload_n hx hb dX2_addEvent_5 rfl (lv_at hl 1 rfl) ?_
  obtain ⟨fs5, v6, hm7, hv8, h⟩ := h
  refine k_get (ci := 3) (C := RX2) (T := TX2) (N := 7) hx hb hts in_X2_addEvent_X2 hown hK hR hm7 rfl 1 (by decide) hw2 (fun _ h9 => h9) hv8 dX2_addEvent_6 ?_
  refine lv_iload_n hx hb dX2_addEvent_9 rfl (lv_at hl 2 rfl) ?_
  obtain ⟨n9, f10, v11, hm12, hv13, hq14, h⟩ := h
  refine k_ald1 hx hb hK hR hm12 hv13 hq14 dX2_addEvent_10 ?_
  refine lv_aload_n hx hb dX2_addEvent_11 rfl (lv_at hl 1 rfl) ?_
  obtain ⟨fs15, v16, hm17, hv18, h⟩ := h
  refine k_get (ci := 3) (C := RX2) (T := TX2) (N := 7) hx hb hts in_X2_addEvent_X2 hown hK hR hm17 rfl 0 (by decide) hw3 (fun _ h9 => h9) hv18 dX2_addEvent_12 ?_
  refine lv_iload_n hx hb dX2_addEvent_15 rfl (lv_at hl 2 rfl) ?_
  obtain ⟨n19, f20, hm21, hv22, h⟩ := h
  refine k_iald hx hb hK hR hm21 hv22 dX2_addEvent_16 ?_
  obtain ⟨fs26, hm25, h⟩ := h
  refine k_callv0 (va_runV (As := [.int (f20 (p1).toNatClampNeg)]) (rest := []) ⟨hx, hb, hml, hown, hts⟩ (c_X1_raise l G _ _ _ v11 (f20 (p1).toNatClampNeg) h) (cwV 1 hts gX2_addEvent_X1_raise rfl rfl rfl (by decide +kernel) ⟨Nat.le_of_ble_eq_true rfl, Nat.le_of_ble_eq_true rfl⟩) (k_preV (q := (RX1, TX1, 3)) hm25 rfl hR hS hA hE) rfl rfl hl.1 rfl (lv_room (Nat.le_of_ble_eq_true rfl)) dX2_addEvent_17 ⟨Nat.zero_le _, Nat.zero_le _⟩) hR hS hA (fun M24 H locs h hR hS => ?_)
  refine lv_aload_n hx hb dX2_addEvent_20 rfl (lv_at hl 1 rfl) ?_
  obtain ⟨fs27, v28, hm29, hv30, h⟩ := h
  refine k_get (ci := 3) (C := RX2) (T := TX2) (N := 7) hx hb hts in_X2_addEvent_X2 hown hK hR hm29 rfl 1 (by decide) hw2 (fun _ h9 => h9) hv30 dX2_addEvent_21 ?_
  refine lv_iload_n hx hb dX2_addEvent_24 rfl (lv_at hl 2 rfl) ?_
  obtain ⟨n31, f32, v33, hm34, hv35, hq36, h⟩ := h
  refine k_ald1 hx hb hK hR hm34 hv35 hq36 dX2_addEvent_25 ?_
  refine lv_iload_n hx hb dX2_addEvent_26 rfl (lv_at hl 0 rfl) ?_
  obtain ⟨fs40, hm39, h⟩ := h
  refine k_callv0 (va_runV (As := [.int v2]) (rest := []) ⟨hx, hb, hml, hown, hts⟩ (c_X1_learn l G _ _ _ v33 v2 h) (cwV 1 hts gX2_addEvent_X1_learn rfl rfl rfl (by decide +kernel) ⟨Nat.le_of_ble_eq_true rfl, Nat.le_of_ble_eq_true rfl⟩) (k_preV (q := (RX1, TX1, 3)) hm39 rfl hR hS hA hE) rfl rfl hl.1 rfl (lv_room (Nat.le_of_ble_eq_true rfl)) dX2_addEvent_27 ⟨Nat.zero_le _, Nat.zero_le _⟩) hR hS hA (fun M38 H locs h hR hS => ?_)
  refine lv_aload_n hx hb dX2_addEvent_30 rfl (lv_at hl 1 rfl) ?_
  obtain ⟨fs41, v42, hm43, hv44, h⟩ := h
  refine k_get (ci := 3) (C := RX2) (T := TX2) (N := 7) hx hb hts in_X2_addEvent_X2 hown hK hR hm43 rfl 5 (by decide) hw4 (fun _ h9 => h9) hv44 dX2_addEvent_31 ?_
  refine lv_iload_n hx hb dX2_addEvent_34 rfl (lv_at hl 0 rfl) ?_
  refine lv_iload_n hx hb dX2_addEvent_35 rfl (lv_at hl 2 rfl) ?_
  obtain ⟨n45, f46, hm48, hv49, h⟩ := h
  replace h := h _ rfl
  refine k_iast hx hb hK hR hS hm48 hv49 dX2_addEvent_36 (fun H locs hR hS => ?_)
  refine lv_aload_n hx hb dX2_addEvent_37 rfl (lv_at hl 1 rfl) ?_
  refine lv_dup hx hb dX2_addEvent_38 rfl ?_
  obtain ⟨fs50, v51, hm52, hv53, h⟩ := h
  refine k_get (ci := 3) (C := RX2) (T := TX2) (N := 7) hx hb hts in_X2_addEvent_X2 hown hK hR hm52 rfl 6 (by decide) hw1 (fun _ h9 => h9) hv53 dX2_addEvent_39 ?_
  refine lv_iconst (v := (1 : Int32)) hx hb dX2_addEvent_42 (by decide) ?_
  refine lv_iadd hx hb dX2_addEvent_43 ?_
  obtain ⟨fs54, hm56, hk57, h⟩ := h
  replace h := h _ rfl
  refine k_put (ci := 3) (v := .int (v51 + (1 : Int32))) (ty := .int) (C := RX2) (T := TX2) (N := 7) hx hb hts in_X2_addEvent_X2 tyX2 tyX2_ok nmX2 hown hK hR hS hm56 rfl 6 (by decide) hw1 (fun _ h9 => h9) rfl (by decide +kernel) rfl rfl hk57 dX2_addEvent_44 (fun H locs hR hS => ?_)
  refine lv_iload_n hx hb dX2_addEvent_47 rfl (lv_at hl 0 rfl) ?_
  exact k_reti hx hb hr hlocks rfl hR hS h dX2_addEvent_48

def wp_X2_addMessage (G : k_G) (post : Int32 → k_M → Prop) (p0 : Nat) (p1 : Int32) (M0 : k_M) : Prop :=
  (∃ fs1 v2, M0 p0 = some (kO 3 fs1) ∧ fs1[4]? = some (.int v2) ∧
  (∃ fs5 v6, M0 p0 = some (kO 3 fs5) ∧ fs5[2]? = some (.ref v6) ∧
  (∃ n9 f10 v11, M0 v6 = some (kO1 G n9 f10) ∧ vp_in v2 n9 ∧ f10 (v2).toNatClampNeg = some v11 ∧
  (∃ fs15 v16, M0 p0 = some (kO 3 fs15) ∧ fs15[1]? = some (.ref v16) ∧
  (∃ n19 f20 v21, M0 v16 = some (kO1 G n19 f20) ∧ vp_in p1 n19 ∧ f20 (p1).toNatClampNeg = some v21 ∧
  (∃ fs28, M0 v11 = some (kO 2 fs28) ∧ wp_X1_become G (fun M26 =>
  (∃ fs29 v30, M26 p0 = some (kO 3 fs29) ∧ fs29[3]? = some (.ref v30) ∧
  (∃ n33 f34, M26 v30 = some (kI G n33 f34) ∧ vp_in v2 n33 ∧ ∀ M35 : k_M, M35 = va_up M26 v30 (some (kI G n33 (upd f34 (v2).toNatClampNeg p1))) →
  (∃ fs38 v39, M35 p0 = some (kO 3 fs38) ∧ fs38[4]? = some (.int v39) ∧
  (∃ fs42, M35 p0 = some (kO 3 fs42) ∧ 4 < fs42.length ∧ ∀ M43 : k_M, M43 = va_up M35 p0 (some (kO 3 (fs42.set 4 (.int (v39 + (1 : Int32)))))) →
  post v2 M43))))) v11 v21 M0))))))
theorem in_X2_addMessage_X2 : ∀ w ∈ wsX20, w ∈ wsX2_addMessage := by decide +kernel
set_option maxHeartbeats 4000000 in
set_option maxRecDepth 100000 in
theorem c_X2_addMessage (l : Launch) (G : k_G) (M0 : k_M) (sz : Nat) (post : Int32 → k_M → Prop) (p0 : Nat) (p1 : Int32) (h : wp_X2_addMessage G post p0 p1 M0) : Met l yX2_addMessage wsX2_addMessage ({ frames := 2, cells := 0, slots := 0, locals := 61 }) (va_Pc [.ref p0, .int p1] (kPre G M0 sz)) (va_Qi post (kB G M0 sz) (kA M0 sz)) 0 0 (kA M0 sz) := by
  refine Met.ofW (cc := cX2_addMessage) (maxL := 3) (ret := (some .int)) (by decide) rfl ?_
  intro p e s m args below meth c s₁ B hml hv
  obtain ⟨rfl, hsz, hR, hE⟩ := hv
  have hx := B.exec
  have hb := B.bytes
  have hr := B.returns
  have hts := atoms_spec (ws := wsX2_addMessage) B.pre
  have hown : s.vm.findClass RX2 = some m.cls := findClass_of_methodNamed B.named
  have hlocks := B.notSynchronized
  subst hsz
  have hK := hE.1
  have hA : ∀ q, s.heap.size ≤ q → kA M0 s.heap.size q := kA.new
  have hS : va_S (kA M0 s.heap.size) s.heap s.heap [] := va_S.rf
  have hw1 := hts (.fieldLink RX2 41 "ForkedStamps$State" "messageCount" "I") (by decide +kernel)
  have hw2 := hts (.fieldLink RX2 21 "ForkedStamps$State" "messages" "[LForkedStamps$Stamp;") (by decide +kernel)
  have hw3 := hts (.fieldLink RX2 17 "ForkedStamps$State" "helpers" "[LForkedStamps$Stamp;") (by decide +kernel)
  have hw4 := hts (.fieldLink RX2 24 "ForkedStamps$State" "senders" "[I") (by decide +kernel)
  have hl := lv_entry ([.ref p0, .int p1]) (n := 3) (Nat.le_of_ble_eq_true rfl)
  rw [lg_entry_eq]
  generalize (lg_sl ([.ref p0, .int p1]) ++ List.replicate (3 - (lg_sl ([.ref p0, .int p1])).length) Slot.unset).toArray = ls at hl ⊢
  have hl : lv_has ls 3 [(0, .ref p0), (1, .int p1)] := hl
  have hR0 := hR
  refine lv_aload_n hx hb dX2_addMessage_0 rfl (lv_at hl 0 rfl) ?_
  obtain ⟨fs1, v2, hm3, hv4, h⟩ := h
  refine k_get (ci := 3) (C := RX2) (T := TX2) (N := 7) hx hb hts in_X2_addMessage_X2 hown hK hR hm3 rfl 4 (by decide) hw1 (fun _ h9 => h9) hv4 dX2_addMessage_1 ?_
  refine lv_istore_n (lv' := [(2, .int v2), (0, .ref p0), (1, .int p1)]) hx hb dX2_addMessage_4 rfl hl (by decide) rfl (fun ls hl => ?_)
  refine lv_aload_n hx hb dX2_addMessage_5 rfl (lv_at hl 1 rfl) ?_
  obtain ⟨fs5, v6, hm7, hv8, h⟩ := h
  refine k_get (ci := 3) (C := RX2) (T := TX2) (N := 7) hx hb hts in_X2_addMessage_X2 hown hK hR hm7 rfl 2 (by decide) hw2 (fun _ h9 => h9) hv8 dX2_addMessage_6 ?_
  refine lv_iload_n hx hb dX2_addMessage_9 rfl (lv_at hl 0 rfl) ?_
  obtain ⟨n9, f10, v11, hm12, hv13, hq14, h⟩ := h
  refine k_ald1 hx hb hK hR hm12 hv13 hq14 dX2_addMessage_10 ?_
  refine lv_aload_n hx hb dX2_addMessage_11 rfl (lv_at hl 1 rfl) ?_
  obtain ⟨fs15, v16, hm17, hv18, h⟩ := h
  refine k_get (ci := 3) (C := RX2) (T := TX2) (N := 7) hx hb hts in_X2_addMessage_X2 hown hK hR hm17 rfl 1 (by decide) hw3 (fun _ h9 => h9) hv18 dX2_addMessage_12 ?_
  refine lv_iload_n hx hb dX2_addMessage_15 rfl (lv_at hl 2 rfl) ?_
  obtain ⟨n19, f20, v21, hm22, hv23, hq24, h⟩ := h
  refine k_ald1 hx hb hK hR hm22 hv23 hq24 dX2_addMessage_16 ?_
  obtain ⟨fs28, hm27, h⟩ := h
  refine k_callv0 (va_runV (As := [.ref v21]) (rest := []) ⟨hx, hb, hml, hown, hts⟩ (c_X1_become l G _ _ _ v11 v21 h) (cwV 1 hts gX2_addMessage_X1_become rfl rfl rfl (by decide +kernel) ⟨Nat.le_of_ble_eq_true rfl, Nat.le_of_ble_eq_true rfl⟩) (k_preV (q := (RX1, TX1, 3)) hm27 rfl hR hS hA hE) rfl rfl hl.1 rfl (lv_room (Nat.le_of_ble_eq_true rfl)) dX2_addMessage_17 ⟨Nat.zero_le _, Nat.zero_le _⟩) hR hS hA (fun M26 H locs h hR hS => ?_)
  refine lv_aload_n hx hb dX2_addMessage_20 rfl (lv_at hl 1 rfl) ?_
  obtain ⟨fs29, v30, hm31, hv32, h⟩ := h
  refine k_get (ci := 3) (C := RX2) (T := TX2) (N := 7) hx hb hts in_X2_addMessage_X2 hown hK hR hm31 rfl 3 (by decide) hw4 (fun _ h9 => h9) hv32 dX2_addMessage_21 ?_
  refine lv_iload_n hx hb dX2_addMessage_24 rfl (lv_at hl 0 rfl) ?_
  refine lv_iload_n hx hb dX2_addMessage_25 rfl (lv_at hl 2 rfl) ?_
  obtain ⟨n33, f34, hm36, hv37, h⟩ := h
  replace h := h _ rfl
  refine k_iast hx hb hK hR hS hm36 hv37 dX2_addMessage_26 (fun H locs hR hS => ?_)
  refine lv_aload_n hx hb dX2_addMessage_27 rfl (lv_at hl 1 rfl) ?_
  refine lv_dup hx hb dX2_addMessage_28 rfl ?_
  obtain ⟨fs38, v39, hm40, hv41, h⟩ := h
  refine k_get (ci := 3) (C := RX2) (T := TX2) (N := 7) hx hb hts in_X2_addMessage_X2 hown hK hR hm40 rfl 4 (by decide) hw1 (fun _ h9 => h9) hv41 dX2_addMessage_29 ?_
  refine lv_iconst (v := (1 : Int32)) hx hb dX2_addMessage_32 (by decide) ?_
  refine lv_iadd hx hb dX2_addMessage_33 ?_
  obtain ⟨fs42, hm44, hk45, h⟩ := h
  replace h := h _ rfl
  refine k_put (ci := 3) (v := .int (v39 + (1 : Int32))) (ty := .int) (C := RX2) (T := TX2) (N := 7) hx hb hts in_X2_addMessage_X2 tyX2 tyX2_ok nmX2 hown hK hR hS hm44 rfl 4 (by decide) hw1 (fun _ h9 => h9) rfl (by decide +kernel) rfl rfl hk45 dX2_addMessage_34 (fun H locs hR hS => ?_)
  refine lv_iload_n hx hb dX2_addMessage_37 rfl (lv_at hl 0 rfl) ?_
  exact k_reti hx hb hr hlocks rfl hR hS h dX2_addMessage_38

def wp_X2_removeMessage_L4 (G : k_G) (post : k_M → Prop) : Nat → Nat → Int32 → k_M → Prop
  | 0 => fun _ _ _ => False
  | n + 1 => fun x0 x2 M =>
  (∃ fs2 v3, M x0 = some (kO 3 fs2) ∧ fs2[4]? = some (.int v3) ∧
      ((v3 ≤ x2 →
      (∃ fs6 v7, M x0 = some (kO 3 fs6) ∧ fs6[4]? = some (.int v7) ∧
        (∃ fs10, M x0 = some (kO 3 fs10) ∧ 4 < fs10.length ∧ ∀ M11 : k_M, M11 = va_up M x0 (some (kO 3 (fs10.set 4 (.int (v7 - (1 : Int32)))))) →
        post M11))) ∧
      (¬ v3 ≤ x2 →
      (∃ fs14 v15, M x0 = some (kO 3 fs14) ∧ fs14[2]? = some (.ref v15) ∧
        (∃ n18 f19 v20, M v15 = some (kO1 G n18 f19) ∧ vp_in (x2 - (1 : Int32)) n18 ∧ f19 ((x2 - (1 : Int32))).toNatClampNeg = some v20 ∧
        (∃ fs24 v25, M x0 = some (kO 3 fs24) ∧ fs24[2]? = some (.ref v25) ∧
        (∃ n28 f29 v30, M v25 = some (kO1 G n28 f29) ∧ vp_in x2 n28 ∧ f29 (x2).toNatClampNeg = some v30 ∧
        (∃ fs37, M v20 = some (kO 2 fs37) ∧ wp_X1_become G (fun M35 =>
        (∃ fs38 v39, M35 x0 = some (kO 3 fs38) ∧ fs38[3]? = some (.ref v39) ∧
        (∃ fs42 v43, M35 x0 = some (kO 3 fs42) ∧ fs42[3]? = some (.ref v43) ∧
        (∃ n46 f47, M35 v43 = some (kI G n46 f47) ∧ vp_in x2 n46 ∧
        (∃ n50 f51, M35 v39 = some (kI G n50 f51) ∧ vp_in (x2 - (1 : Int32)) n50 ∧ ∀ M52 : k_M, M52 = va_up M35 v39 (some (kI G n50 (upd f51 ((x2 - (1 : Int32))).toNatClampNeg (f47 (x2).toNatClampNeg)))) →
        (wp_X2_removeMessage_L4 G post n) x0 (x2 + (1 : Int32)) M52))))) v20 v30 M))))))))
def wp_X2_removeMessage (G : k_G) (post : k_M → Prop) (p0 : Nat) (p1 : Int32) (M0 : k_M) : Prop :=
  ∃ k1, wp_X2_removeMessage_L4 G post k1 p0 (p1 + (1 : Int32)) M0
theorem in_X2_removeMessage_X2 : ∀ w ∈ wsX20, w ∈ wsX2_removeMessage := by decide +kernel
set_option maxHeartbeats 4000000 in
set_option maxRecDepth 100000 in
theorem c_X2_removeMessage (l : Launch) (G : k_G) (M0 : k_M) (sz : Nat) (post : k_M → Prop) (p0 : Nat) (p1 : Int32) (h : wp_X2_removeMessage G post p0 p1 M0) : Met l yX2_removeMessage wsX2_removeMessage ({ frames := 2, cells := 0, slots := 0, locals := 61 }) (va_Pc [.ref p0, .int p1] (kPre G M0 sz)) (va_Qv post (kB G M0 sz) (kA M0 sz)) 0 0 (kA M0 sz) := by
  refine Met.ofW (cc := cX2_removeMessage) (maxL := 3) (ret := none) (by decide) rfl ?_
  intro p e s m args below meth c s₁ B hml hv
  obtain ⟨rfl, hsz, hR, hE⟩ := hv
  have hx := B.exec
  have hb := B.bytes
  have hr := B.returns
  have hts := atoms_spec (ws := wsX2_removeMessage) B.pre
  have hown : s.vm.findClass RX2 = some m.cls := findClass_of_methodNamed B.named
  have hlocks := B.notSynchronized
  subst hsz
  have hK := hE.1
  have hA : ∀ q, s.heap.size ≤ q → kA M0 s.heap.size q := kA.new
  have hS : va_S (kA M0 s.heap.size) s.heap s.heap [] := va_S.rf
  have hw1 := hts (.fieldLink RX2 41 "ForkedStamps$State" "messageCount" "I") (by decide +kernel)
  have hw2 := hts (.fieldLink RX2 21 "ForkedStamps$State" "messages" "[LForkedStamps$Stamp;") (by decide +kernel)
  have hw3 := hts (.fieldLink RX2 24 "ForkedStamps$State" "senders" "[I") (by decide +kernel)
  have L4 : ∀ (n : Nat), ∀ (x0 : Nat) (x2 : Int32) (M : k_M) (H : Heap) (locs : List Loc) (ls : Array Slot), wp_X2_removeMessage_L4 G post n x0 x2 M → lv_has ls 3 [(0, .ref x0), (2, .int x2)] → kR G M (kA M0 s.heap.size) H → va_S (kA M0 s.heap.size) s.heap H locs → W p l e (headSpec wsX2_removeMessage ({ frames := 2, cells := 0, slots := 0, locals := 61 })).room s m ([.ref p0, .int p1] : List Value).toArray below meth c H locs 0 0 (MQ below (va_Qv post (kB G M0 s.heap.size) (kA M0 s.heap.size)) ([.ref p0, .int p1] : List Value).toArray s 0 0 (kA M0 s.heap.size)) (F0 m 4 ls []) := by
    intro n
    induction n with
    | zero =>
      intro  x0 x2 M H locs ls h
      exact False.elim h
    | succ n ih =>
      intro  x0 x2 M H locs ls h hl hR hS
      refine lv_iload_n hx hb dX2_removeMessage_4 rfl (lv_at hl 1 rfl) ?_
      refine lv_aload_n hx hb dX2_removeMessage_5 rfl (lv_at hl 0 rfl) ?_
      obtain ⟨fs2, v3, hm4, hv5, h⟩ := h
      refine k_get (ci := 3) (C := RX2) (T := TX2) (N := 7) hx hb hts in_X2_removeMessage_X2 hown hK hR hm4 rfl 4 (by decide) hw1 (fun _ h9 => h9) hv5 dX2_removeMessage_6 ?_
      obtain ⟨ha, hb2⟩ := h
      refine lv_icmp_ge (tgt := 49) hx hb dX2_removeMessage_9 (by decide) (fun hc => ?_) (fun hc => ?_)
      · replace h := ha hc
        refine lv_aload_n hx hb dX2_removeMessage_49 rfl (lv_at hl 0 rfl) ?_
        refine lv_dup hx hb dX2_removeMessage_50 rfl ?_
        obtain ⟨fs6, v7, hm8, hv9, h⟩ := h
        refine k_get (ci := 3) (C := RX2) (T := TX2) (N := 7) hx hb hts in_X2_removeMessage_X2 hown hK hR hm8 rfl 4 (by decide) hw1 (fun _ h9 => h9) hv9 dX2_removeMessage_51 ?_
        refine lv_iconst (v := (1 : Int32)) hx hb dX2_removeMessage_54 (by decide) ?_
        refine lv_isub hx hb dX2_removeMessage_55 ?_
        obtain ⟨fs10, hm12, hk13, h⟩ := h
        replace h := h _ rfl
        refine k_put (ci := 3) (v := .int (v7 - (1 : Int32))) (ty := .int) (C := RX2) (T := TX2) (N := 7) hx hb hts in_X2_removeMessage_X2 tyX2 tyX2_ok nmX2 hown hK hR hS hm12 rfl 4 (by decide) hw1 (fun _ h9 => h9) rfl (by decide +kernel) rfl rfl hk13 dX2_removeMessage_56 (fun H locs hR hS => ?_)
        exact k_retv hx hb hr hlocks hR hS h dX2_removeMessage_59
      · replace h := hb2 hc
        refine lv_aload_n hx hb dX2_removeMessage_12 rfl (lv_at hl 0 rfl) ?_
        obtain ⟨fs14, v15, hm16, hv17, h⟩ := h
        refine k_get (ci := 3) (C := RX2) (T := TX2) (N := 7) hx hb hts in_X2_removeMessage_X2 hown hK hR hm16 rfl 2 (by decide) hw2 (fun _ h9 => h9) hv17 dX2_removeMessage_13 ?_
        refine lv_iload_n hx hb dX2_removeMessage_16 rfl (lv_at hl 1 rfl) ?_
        refine lv_iconst (v := (1 : Int32)) hx hb dX2_removeMessage_17 (by decide) ?_
        refine lv_isub hx hb dX2_removeMessage_18 ?_
        obtain ⟨n18, f19, v20, hm21, hv22, hq23, h⟩ := h
        refine k_ald1 hx hb hK hR hm21 hv22 hq23 dX2_removeMessage_19 ?_
        refine lv_aload_n hx hb dX2_removeMessage_20 rfl (lv_at hl 0 rfl) ?_
        obtain ⟨fs24, v25, hm26, hv27, h⟩ := h
        refine k_get (ci := 3) (C := RX2) (T := TX2) (N := 7) hx hb hts in_X2_removeMessage_X2 hown hK hR hm26 rfl 2 (by decide) hw2 (fun _ h9 => h9) hv27 dX2_removeMessage_21 ?_
        refine lv_iload_n hx hb dX2_removeMessage_24 rfl (lv_at hl 1 rfl) ?_
        obtain ⟨n28, f29, v30, hm31, hv32, hq33, h⟩ := h
        refine k_ald1 hx hb hK hR hm31 hv32 hq33 dX2_removeMessage_25 ?_
        obtain ⟨fs37, hm36, h⟩ := h
        refine k_callv0 (va_runV (As := [.ref v30]) (rest := []) ⟨hx, hb, hml, hown, hts⟩ (c_X1_become l G _ _ _ v20 v30 h) (cwV 1 hts gX2_removeMessage_X1_become rfl rfl rfl (by decide +kernel) ⟨Nat.le_of_ble_eq_true rfl, Nat.le_of_ble_eq_true rfl⟩) (k_preV (q := (RX1, TX1, 3)) hm36 rfl hR hS hA hE) rfl rfl hl.1 rfl (lv_room (Nat.le_of_ble_eq_true rfl)) dX2_removeMessage_26 ⟨Nat.zero_le _, Nat.zero_le _⟩) hR hS hA (fun M35 H locs h hR hS => ?_)
        refine lv_aload_n hx hb dX2_removeMessage_29 rfl (lv_at hl 0 rfl) ?_
        obtain ⟨fs38, v39, hm40, hv41, h⟩ := h
        refine k_get (ci := 3) (C := RX2) (T := TX2) (N := 7) hx hb hts in_X2_removeMessage_X2 hown hK hR hm40 rfl 3 (by decide) hw3 (fun _ h9 => h9) hv41 dX2_removeMessage_30 ?_
        refine lv_iload_n hx hb dX2_removeMessage_33 rfl (lv_at hl 1 rfl) ?_
        refine lv_iconst (v := (1 : Int32)) hx hb dX2_removeMessage_34 (by decide) ?_
        refine lv_isub hx hb dX2_removeMessage_35 ?_
        refine lv_aload_n hx hb dX2_removeMessage_36 rfl (lv_at hl 0 rfl) ?_
        obtain ⟨fs42, v43, hm44, hv45, h⟩ := h
        refine k_get (ci := 3) (C := RX2) (T := TX2) (N := 7) hx hb hts in_X2_removeMessage_X2 hown hK hR hm44 rfl 3 (by decide) hw3 (fun _ h9 => h9) hv45 dX2_removeMessage_37 ?_
        refine lv_iload_n hx hb dX2_removeMessage_40 rfl (lv_at hl 1 rfl) ?_
        obtain ⟨n46, f47, hm48, hv49, h⟩ := h
        refine k_iald hx hb hK hR hm48 hv49 dX2_removeMessage_41 ?_
        obtain ⟨n50, f51, hm53, hv54, h⟩ := h
        replace h := h _ rfl
        refine k_iast hx hb hK hR hS hm53 hv54 dX2_removeMessage_42 (fun H locs hR hS => ?_)
        refine lv_iinc (v := (x2 + (1 : Int32))) (lv' := [(2, .int (x2 + (1 : Int32))), (0, .ref x0)]) hx hb dX2_removeMessage_43 hl (k := 1) rfl rfl (by decide) rfl (fun ls hl => ?_)
        refine lv_goto (tgt := 4) hx hb dX2_removeMessage_46 (by decide) ?_
        exact ih _ _ _ _ _ _ h (lv_sub hl [1, 0] rfl) hR hS
  have hl := lv_entry ([.ref p0, .int p1]) (n := 3) (Nat.le_of_ble_eq_true rfl)
  rw [lg_entry_eq]
  generalize (lg_sl ([.ref p0, .int p1]) ++ List.replicate (3 - (lg_sl ([.ref p0, .int p1])).length) Slot.unset).toArray = ls at hl ⊢
  have hl : lv_has ls 3 [(0, .ref p0), (1, .int p1)] := hl
  have hR0 := hR
  refine lv_iload_n hx hb dX2_removeMessage_0 rfl (lv_at hl 1 rfl) ?_
  refine lv_iconst (v := (1 : Int32)) hx hb dX2_removeMessage_1 (by decide) ?_
  refine lv_iadd hx hb dX2_removeMessage_2 ?_
  refine lv_istore_n (lv' := [(2, .int (p1 + (1 : Int32))), (0, .ref p0), (1, .int p1)]) hx hb dX2_removeMessage_3 rfl hl (by decide) rfl (fun ls hl => ?_)
  obtain ⟨k1, h⟩ := h
  exact L4 k1 _ _ _ _ _ _ h (lv_sub hl [1, 0] rfl) hR hS

def wp_X2_helperSet_L4 (G : k_G) (post : Int32 → k_M → Prop) : Nat → Nat → Int32 → Int32 → k_M → Prop
  | 0 => fun _ _ _ _ => False
  | n + 1 => fun x0 x1 x2 M =>
  (((8 : Int32) ≤ x2 →
      post x1 M) ∧
      (¬ (8 : Int32) ≤ x2 →
      (∃ fs5, M x0 = some (kO 3 fs5) ∧ wp_X2_isHelper G (fun r2 M3 =>
        ((r2 = 0 →
        (wp_X2_helperSet_L4 G post n) x0 x1 (x2 + (1 : Int32)) M3) ∧
        (¬ r2 = 0 →
        (wp_X2_helperSet_L4 G post n) x0 (x1 ||| ((1 : Int32) <<< (x2 &&& 31))) (x2 + (1 : Int32)) M3))) x0 x2 M)))
def wp_X2_helperSet (G : k_G) (post : Int32 → k_M → Prop) (p0 : Nat) (M0 : k_M) : Prop :=
  ∃ k1, wp_X2_helperSet_L4 G post k1 p0 (0 : Int32) (0 : Int32) M0
set_option maxHeartbeats 4000000 in
set_option maxRecDepth 100000 in
theorem c_X2_helperSet (l : Launch) (G : k_G) (M0 : k_M) (sz : Nat) (post : Int32 → k_M → Prop) (p0 : Nat) (h : wp_X2_helperSet G post p0 M0) : Met l yX2_helperSet wsX2_helperSet ({ frames := 1, cells := 0, slots := 0, locals := 21 }) (va_Pc [.ref p0] (kPre G M0 sz)) (va_Qi post (kB G M0 sz) (kA M0 sz)) 0 0 (kA M0 sz) := by
  refine Met.ofW (cc := cX2_helperSet) (maxL := 3) (ret := (some .int)) (by decide) rfl ?_
  intro p e s m args below meth c s₁ B hml hv
  obtain ⟨rfl, hsz, hR, hE⟩ := hv
  have hx := B.exec
  have hb := B.bytes
  have hr := B.returns
  have hts := atoms_spec (ws := wsX2_helperSet) B.pre
  have hown : s.vm.findClass RX2 = some m.cls := findClass_of_methodNamed B.named
  have hlocks := B.notSynchronized
  subst hsz
  have hK := hE.1
  have hA : ∀ q, s.heap.size ≤ q → kA M0 s.heap.size q := kA.new
  have hS : va_S (kA M0 s.heap.size) s.heap s.heap [] := va_S.rf
  have L4 : ∀ (n : Nat), ∀ (x0 : Nat) (x1 : Int32) (x2 : Int32) (M : k_M) (H : Heap) (locs : List Loc) (ls : Array Slot), wp_X2_helperSet_L4 G post n x0 x1 x2 M → lv_has ls 3 [(0, .ref x0), (1, .int x1), (2, .int x2)] → kR G M (kA M0 s.heap.size) H → va_S (kA M0 s.heap.size) s.heap H locs → W p l e (headSpec wsX2_helperSet ({ frames := 1, cells := 0, slots := 0, locals := 21 })).room s m ([.ref p0] : List Value).toArray below meth c H locs 0 0 (MQ below (va_Qi post (kB G M0 s.heap.size) (kA M0 s.heap.size)) ([.ref p0] : List Value).toArray s 0 0 (kA M0 s.heap.size)) (F0 m 4 ls []) := by
    intro n
    induction n with
    | zero =>
      intro  x0 x1 x2 M H locs ls h
      exact False.elim h
    | succ n ih =>
      intro  x0 x1 x2 M H locs ls h hl hR hS
      refine lv_iload_n hx hb dX2_helperSet_4 rfl (lv_at hl 2 rfl) ?_
      refine lv_bipush (v := (8 : Int32)) hx hb dX2_helperSet_5 (by decide) ?_
      obtain ⟨ha, hb2⟩ := h
      refine lv_icmp_ge (tgt := 30) hx hb dX2_helperSet_7 (by decide) (fun hc => ?_) (fun hc => ?_)
      · replace h := ha hc
        refine lv_iload_n hx hb dX2_helperSet_30 rfl (lv_at hl 1 rfl) ?_
        exact k_reti hx hb hr hlocks rfl hR hS h dX2_helperSet_31
      · replace h := hb2 hc
        refine lv_aload_n hx hb dX2_helperSet_10 rfl (lv_at hl 0 rfl) ?_
        refine lv_iload_n hx hb dX2_helperSet_11 rfl (lv_at hl 2 rfl) ?_
        obtain ⟨fs5, hm4, h⟩ := h
        refine k_calli0 (va_runV (As := [.int x2]) (rest := []) ⟨hx, hb, hml, hown, hts⟩ (c_X2_isHelper l G _ _ _ x0 x2 h) (cwV 1 hts gX2_helperSet_X2_isHelper rfl rfl rfl (by decide +kernel) ⟨Nat.le_of_ble_eq_true rfl, Nat.le_of_ble_eq_true rfl⟩) (k_preV (q := (RX2, TX2, 7)) hm4 rfl hR hS hA hE) rfl rfl hl.1 rfl (lv_room (Nat.le_of_ble_eq_true rfl)) dX2_helperSet_12 ⟨Nat.zero_le _, Nat.zero_le _⟩) hR hS hA (fun r2 M3 H locs h hR hS => ?_)
        obtain ⟨ha, hb2⟩ := h
        refine lv_if_eq (tgt := 24) hx hb dX2_helperSet_15 (by decide) (fun hc => ?_) (fun hc => ?_)
        · replace h := ha hc
          refine lv_iinc (v := (x2 + (1 : Int32))) (lv' := [(2, .int (x2 + (1 : Int32))), (0, .ref x0), (1, .int x1)]) hx hb dX2_helperSet_24 hl (k := 2) rfl rfl (by decide) rfl (fun ls hl => ?_)
          refine lv_goto (tgt := 4) hx hb dX2_helperSet_27 (by decide) ?_
          exact ih _ _ _ _ _ _ _ h (lv_sub hl [1, 2, 0] rfl) hR hS
        · replace h := hb2 hc
          refine lv_iload_n hx hb dX2_helperSet_18 rfl (lv_at hl 1 rfl) ?_
          refine lv_iconst (v := (1 : Int32)) hx hb dX2_helperSet_19 (by decide) ?_
          refine lv_iload_n hx hb dX2_helperSet_20 rfl (lv_at hl 2 rfl) ?_
          refine lv_ishl hx hb dX2_helperSet_21 ?_
          refine lv_ior hx hb dX2_helperSet_22 ?_
          refine lv_istore_n (lv' := [(1, .int (x1 ||| ((1 : Int32) <<< (x2 &&& 31)))), (0, .ref x0), (2, .int x2)]) hx hb dX2_helperSet_23 rfl hl (by decide) rfl (fun ls hl => ?_)
          refine lv_iinc (v := (x2 + (1 : Int32))) (lv' := [(2, .int (x2 + (1 : Int32))), (1, .int (x1 ||| ((1 : Int32) <<< (x2 &&& 31)))), (0, .ref x0)]) hx hb dX2_helperSet_24 hl (k := 2) rfl rfl (by decide) rfl (fun ls hl => ?_)
          refine lv_goto (tgt := 4) hx hb dX2_helperSet_27 (by decide) ?_
          exact ih _ _ _ _ _ _ _ h (lv_sub hl [2, 1, 0] rfl) hR hS
  have hl := lv_entry ([.ref p0]) (n := 3) (Nat.le_of_ble_eq_true rfl)
  rw [lg_entry_eq]
  generalize (lg_sl ([.ref p0]) ++ List.replicate (3 - (lg_sl ([.ref p0])).length) Slot.unset).toArray = ls at hl ⊢
  have hl : lv_has ls 3 [(0, .ref p0)] := hl
  have hR0 := hR
  refine lv_iconst (v := (0 : Int32)) hx hb dX2_helperSet_0 (by decide) ?_
  refine lv_istore_n (lv' := [(1, .int (0 : Int32)), (0, .ref p0)]) hx hb dX2_helperSet_1 rfl hl (by decide) rfl (fun ls hl => ?_)
  refine lv_iconst (v := (0 : Int32)) hx hb dX2_helperSet_2 (by decide) ?_
  refine lv_istore_n (lv' := [(2, .int (0 : Int32)), (1, .int (0 : Int32)), (0, .ref p0)]) hx hb dX2_helperSet_3 rfl hl (by decide) rfl (fun ls hl => ?_)
  obtain ⟨k1, h⟩ := h
  exact L4 k1 _ _ _ _ _ _ _ h (lv_sub hl [2, 1, 0] rfl) hR hS

def wp_X2_clashingPairs_L14 (G : k_G) (post : Int32 → k_M → Prop) (K4 : Nat → Int32 → Int32 → k_M → Prop) : Nat → Nat → Int32 → Int32 → Int32 → k_M → Prop
  | 0 => fun _ _ _ _ _ => False
  | n + 1 => fun x0 x1 x2 x3 M =>
  (((8 : Int32) ≤ x3 →
      K4 x0 x1 (x2 + (1 : Int32)) M) ∧
      (¬ (8 : Int32) ≤ x3 →
      (∃ fs6, M x0 = some (kO 3 fs6) ∧ wp_X2_isHelper G (fun r3 M4 =>
        ((r3 = 0 →
        (wp_X2_clashingPairs_L14 G post K4 n) x0 x1 x2 (x3 + (1 : Int32)) M4) ∧
        (¬ r3 = 0 →
        (∃ fs10, M4 x0 = some (kO 3 fs10) ∧ wp_X2_isHelper G (fun r7 M8 =>
          ((r7 = 0 →
          (wp_X2_clashingPairs_L14 G post K4 n) x0 x1 x2 (x3 + (1 : Int32)) M8) ∧
          (¬ r7 = 0 →
          (∃ fs11 v12, M8 x0 = some (kO 3 fs11) ∧ fs11[1]? = some (.ref v12) ∧
            (∃ n15 f16 v17, M8 v12 = some (kO1 G n15 f16) ∧ vp_in x2 n15 ∧ f16 (x2).toNatClampNeg = some v17 ∧
            (∃ fs21 v22, M8 x0 = some (kO 3 fs21) ∧ fs21[1]? = some (.ref v22) ∧
            (∃ n25 f26 v27, M8 v22 = some (kO1 G n25 f26) ∧ vp_in x3 n25 ∧ f26 (x3).toNatClampNeg = some v27 ∧
            (∃ fs34, M8 v17 = some (kO 2 fs34) ∧ wp_X1_orderTo G (fun r31 M32 =>
            ((¬ r31 = (3 : Int32) →
            (wp_X2_clashingPairs_L14 G post K4 n) x0 x1 x2 (x3 + (1 : Int32)) M32) ∧
            (r31 = (3 : Int32) →
            (wp_X2_clashingPairs_L14 G post K4 n) x0 (x1 + (1 : Int32)) x2 (x3 + (1 : Int32)) M32))) v17 v27 M8)))))))) x0 x3 M4)))) x0 x2 M)))
def wp_X2_clashingPairs_L4 (G : k_G) (post : Int32 → k_M → Prop) : Nat → Nat → Int32 → Int32 → k_M → Prop
  | 0 => fun _ _ _ _ => False
  | n + 1 => fun x0 x1 x2 M =>
  (((8 : Int32) ≤ x2 →
      post x1 M) ∧
      (¬ (8 : Int32) ≤ x2 →
      ∃ k2, wp_X2_clashingPairs_L14 G post (wp_X2_clashingPairs_L4 G post n) k2 x0 x1 x2 (x2 + (1 : Int32)) M))
def wp_X2_clashingPairs (G : k_G) (post : Int32 → k_M → Prop) (p0 : Nat) (M0 : k_M) : Prop :=
  ∃ k1, wp_X2_clashingPairs_L4 G post k1 p0 (0 : Int32) (0 : Int32) M0
theorem in_X2_clashingPairs_X2 : ∀ w ∈ wsX20, w ∈ wsX2_clashingPairs := by decide +kernel
set_option maxHeartbeats 4000000 in
set_option maxRecDepth 100000 in
theorem c_X2_clashingPairs (l : Launch) (G : k_G) (M0 : k_M) (sz : Nat) (post : Int32 → k_M → Prop) (p0 : Nat) (h : wp_X2_clashingPairs G post p0 M0) : Met l yX2_clashingPairs wsX2_clashingPairs ({ frames := 1, cells := 0, slots := 0, locals := 24 }) (va_Pc [.ref p0] (kPre G M0 sz)) (va_Qi post (kB G M0 sz) (kA M0 sz)) 0 0 (kA M0 sz) := by
  refine Met.ofW (cc := cX2_clashingPairs) (maxL := 4) (ret := (some .int)) (by decide) rfl ?_
  intro p e s m args below meth c s₁ B hml hv
  obtain ⟨rfl, hsz, hR, hE⟩ := hv
  have hx := B.exec
  have hb := B.bytes
  have hr := B.returns
  have hts := atoms_spec (ws := wsX2_clashingPairs) B.pre
  have hown : s.vm.findClass RX2 = some m.cls := findClass_of_methodNamed B.named
  have hlocks := B.notSynchronized
  subst hsz
  have hK := hE.1
  have hA : ∀ q, s.heap.size ≤ q → kA M0 s.heap.size q := kA.new
  have hS : va_S (kA M0 s.heap.size) s.heap s.heap [] := va_S.rf
  have hw1 := hts (.fieldLink RX2 17 "ForkedStamps$State" "helpers" "[LForkedStamps$Stamp;") (by decide +kernel)
  have L14 : ∀ (K4 : Nat → Int32 → Int32 → k_M → Prop) (hK4 : ∀ (x0 : Nat) (x1 : Int32) (x2 : Int32) (M : k_M) (H : Heap) (locs : List Loc) (ls : Array Slot), K4 x0 x1 x2 M → lv_has ls 4 [(0, .ref x0), (1, .int x1), (2, .int x2)] → kR G M (kA M0 s.heap.size) H → va_S (kA M0 s.heap.size) s.heap H locs → W p l e (headSpec wsX2_clashingPairs ({ frames := 1, cells := 0, slots := 0, locals := 24 })).room s m ([.ref p0] : List Value).toArray below meth c H locs 0 0 (MQ below (va_Qi post (kB G M0 s.heap.size) (kA M0 s.heap.size)) ([.ref p0] : List Value).toArray s 0 0 (kA M0 s.heap.size)) (F0 m 4 ls [])) (n : Nat), ∀ (x0 : Nat) (x1 : Int32) (x2 : Int32) (x3 : Int32) (M : k_M) (H : Heap) (locs : List Loc) (ls : Array Slot), wp_X2_clashingPairs_L14 G post K4 n x0 x1 x2 x3 M → lv_has ls 4 [(0, .ref x0), (1, .int x1), (2, .int x2), (3, .int x3)] → kR G M (kA M0 s.heap.size) H → va_S (kA M0 s.heap.size) s.heap H locs → W p l e (headSpec wsX2_clashingPairs ({ frames := 1, cells := 0, slots := 0, locals := 24 })).room s m ([.ref p0] : List Value).toArray below meth c H locs 0 0 (MQ below (va_Qi post (kB G M0 s.heap.size) (kA M0 s.heap.size)) ([.ref p0] : List Value).toArray s 0 0 (kA M0 s.heap.size)) (F0 m 14 ls []) := by
    intro K4 hK4 n
    induction n with
    | zero =>
      intro  x0 x1 x2 x3 M H locs ls h
      exact False.elim h
    | succ n ih =>
      intro  x0 x1 x2 x3 M H locs ls h hl hR hS
      refine lv_iload_n hx hb dX2_clashingPairs_14 rfl (lv_at hl 3 rfl) ?_
      refine lv_bipush (v := (8 : Int32)) hx hb dX2_clashingPairs_15 (by decide) ?_
      obtain ⟨ha, hb2⟩ := h
      refine lv_icmp_ge (tgt := 64) hx hb dX2_clashingPairs_17 (by decide) (fun hc => ?_) (fun hc => ?_)
      · replace h := ha hc
        refine lv_iinc (v := (x2 + (1 : Int32))) (lv' := [(2, .int (x2 + (1 : Int32))), (0, .ref x0), (1, .int x1), (3, .int x3)]) hx hb dX2_clashingPairs_64 hl (k := 2) rfl rfl (by decide) rfl (fun ls hl => ?_)
        refine lv_goto (tgt := 4) hx hb dX2_clashingPairs_67 (by decide) ?_
        exact hK4 _ _ _ _ _ _ _ h (lv_sub hl [1, 2, 0] rfl) hR hS
      · replace h := hb2 hc
        refine lv_aload_n hx hb dX2_clashingPairs_20 rfl (lv_at hl 0 rfl) ?_
        refine lv_iload_n hx hb dX2_clashingPairs_21 rfl (lv_at hl 2 rfl) ?_
        obtain ⟨fs6, hm5, h⟩ := h
        refine k_calli0 (va_runV (As := [.int x2]) (rest := []) ⟨hx, hb, hml, hown, hts⟩ (c_X2_isHelper l G _ _ _ x0 x2 h) (cwV 1 hts gX2_clashingPairs_X2_isHelper rfl rfl rfl (by decide +kernel) ⟨Nat.le_of_ble_eq_true rfl, Nat.le_of_ble_eq_true rfl⟩) (k_preV (q := (RX2, TX2, 7)) hm5 rfl hR hS hA hE) rfl rfl hl.1 rfl (lv_room (Nat.le_of_ble_eq_true rfl)) dX2_clashingPairs_22 ⟨Nat.zero_le _, Nat.zero_le _⟩) hR hS hA (fun r3 M4 H locs h hR hS => ?_)
        obtain ⟨ha, hb2⟩ := h
        refine lv_if_eq (tgt := 58) hx hb dX2_clashingPairs_25 (by decide) (fun hc => ?_) (fun hc => ?_)
        · replace h := ha hc
          refine lv_iinc (v := (x3 + (1 : Int32))) (lv' := [(3, .int (x3 + (1 : Int32))), (0, .ref x0), (1, .int x1), (2, .int x2)]) hx hb dX2_clashingPairs_58 hl (k := 3) rfl rfl (by decide) rfl (fun ls hl => ?_)
          refine lv_goto (tgt := 14) hx hb dX2_clashingPairs_61 (by decide) ?_
          exact ih _ _ _ _ _ _ _ _ h (lv_sub hl [1, 2, 3, 0] rfl) hR hS
        · replace h := hb2 hc
          refine lv_aload_n hx hb dX2_clashingPairs_28 rfl (lv_at hl 0 rfl) ?_
          refine lv_iload_n hx hb dX2_clashingPairs_29 rfl (lv_at hl 3 rfl) ?_
          obtain ⟨fs10, hm9, h⟩ := h
          refine k_calli0 (va_runV (As := [.int x3]) (rest := []) ⟨hx, hb, hml, hown, hts⟩ (c_X2_isHelper l G _ _ _ x0 x3 h) (cwV 1 hts gX2_clashingPairs_X2_isHelper rfl rfl rfl (by decide +kernel) ⟨Nat.le_of_ble_eq_true rfl, Nat.le_of_ble_eq_true rfl⟩) (k_preV (q := (RX2, TX2, 7)) hm9 rfl hR hS hA hE) rfl rfl hl.1 rfl (lv_room (Nat.le_of_ble_eq_true rfl)) dX2_clashingPairs_30 ⟨Nat.zero_le _, Nat.zero_le _⟩) hR hS hA (fun r7 M8 H locs h hR hS => ?_)
          obtain ⟨ha, hb2⟩ := h
          refine lv_if_eq (tgt := 58) hx hb dX2_clashingPairs_33 (by decide) (fun hc => ?_) (fun hc => ?_)
          · replace h := ha hc
            refine lv_iinc (v := (x3 + (1 : Int32))) (lv' := [(3, .int (x3 + (1 : Int32))), (0, .ref x0), (1, .int x1), (2, .int x2)]) hx hb dX2_clashingPairs_58 hl (k := 3) rfl rfl (by decide) rfl (fun ls hl => ?_)
            refine lv_goto (tgt := 14) hx hb dX2_clashingPairs_61 (by decide) ?_
            exact ih _ _ _ _ _ _ _ _ h (lv_sub hl [1, 2, 3, 0] rfl) hR hS
          · replace h := hb2 hc
            refine lv_aload_n hx hb dX2_clashingPairs_36 rfl (lv_at hl 0 rfl) ?_
            obtain ⟨fs11, v12, hm13, hv14, h⟩ := h
            refine k_get (ci := 3) (C := RX2) (T := TX2) (N := 7) hx hb hts in_X2_clashingPairs_X2 hown hK hR hm13 rfl 1 (by decide) hw1 (fun _ h9 => h9) hv14 dX2_clashingPairs_37 ?_
            refine lv_iload_n hx hb dX2_clashingPairs_40 rfl (lv_at hl 2 rfl) ?_
            obtain ⟨n15, f16, v17, hm18, hv19, hq20, h⟩ := h
            refine k_ald1 hx hb hK hR hm18 hv19 hq20 dX2_clashingPairs_41 ?_
            refine lv_aload_n hx hb dX2_clashingPairs_42 rfl (lv_at hl 0 rfl) ?_
            obtain ⟨fs21, v22, hm23, hv24, h⟩ := h
            refine k_get (ci := 3) (C := RX2) (T := TX2) (N := 7) hx hb hts in_X2_clashingPairs_X2 hown hK hR hm23 rfl 1 (by decide) hw1 (fun _ h9 => h9) hv24 dX2_clashingPairs_43 ?_
            refine lv_iload_n hx hb dX2_clashingPairs_46 rfl (lv_at hl 3 rfl) ?_
            obtain ⟨n25, f26, v27, hm28, hv29, hq30, h⟩ := h
            refine k_ald1 hx hb hK hR hm28 hv29 hq30 dX2_clashingPairs_47 ?_
            obtain ⟨fs34, hm33, h⟩ := h
            refine k_calli0 (va_runV (As := [.ref v27]) (rest := []) ⟨hx, hb, hml, hown, hts⟩ (c_X1_orderTo l G _ _ _ v17 v27 h) (cwV 1 hts gX2_clashingPairs_X1_orderTo rfl rfl rfl (by decide +kernel) ⟨Nat.le_of_ble_eq_true rfl, Nat.le_of_ble_eq_true rfl⟩) (k_preV (q := (RX1, TX1, 3)) hm33 rfl hR hS hA hE) rfl rfl hl.1 rfl (lv_room (Nat.le_of_ble_eq_true rfl)) dX2_clashingPairs_48 ⟨Nat.zero_le _, Nat.zero_le _⟩) hR hS hA (fun r31 M32 H locs h hR hS => ?_)
            refine lv_iconst (v := (3 : Int32)) hx hb dX2_clashingPairs_51 (by decide) ?_
            obtain ⟨ha, hb2⟩ := h
            refine lv_icmp_ne (tgt := 58) hx hb dX2_clashingPairs_52 (by decide) (fun hc => ?_) (fun hc => ?_)
            · replace h := ha hc
              refine lv_iinc (v := (x3 + (1 : Int32))) (lv' := [(3, .int (x3 + (1 : Int32))), (0, .ref x0), (1, .int x1), (2, .int x2)]) hx hb dX2_clashingPairs_58 hl (k := 3) rfl rfl (by decide) rfl (fun ls hl => ?_)
              refine lv_goto (tgt := 14) hx hb dX2_clashingPairs_61 (by decide) ?_
              exact ih _ _ _ _ _ _ _ _ h (lv_sub hl [1, 2, 3, 0] rfl) hR hS
            · replace h := hb2 hc
              refine lv_iinc (v := (x1 + (1 : Int32))) (lv' := [(1, .int (x1 + (1 : Int32))), (0, .ref x0), (2, .int x2), (3, .int x3)]) hx hb dX2_clashingPairs_55 hl (k := 1) rfl rfl (by decide) rfl (fun ls hl => ?_)
              refine lv_iinc (v := (x3 + (1 : Int32))) (lv' := [(3, .int (x3 + (1 : Int32))), (1, .int (x1 + (1 : Int32))), (0, .ref x0), (2, .int x2)]) hx hb dX2_clashingPairs_58 hl (k := 3) rfl rfl (by decide) rfl (fun ls hl => ?_)
              refine lv_goto (tgt := 14) hx hb dX2_clashingPairs_61 (by decide) ?_
              exact ih _ _ _ _ _ _ _ _ h (lv_sub hl [2, 1, 3, 0] rfl) hR hS
  have L4 : ∀ (n : Nat), ∀ (x0 : Nat) (x1 : Int32) (x2 : Int32) (M : k_M) (H : Heap) (locs : List Loc) (ls : Array Slot), wp_X2_clashingPairs_L4 G post n x0 x1 x2 M → lv_has ls 4 [(0, .ref x0), (1, .int x1), (2, .int x2)] → kR G M (kA M0 s.heap.size) H → va_S (kA M0 s.heap.size) s.heap H locs → W p l e (headSpec wsX2_clashingPairs ({ frames := 1, cells := 0, slots := 0, locals := 24 })).room s m ([.ref p0] : List Value).toArray below meth c H locs 0 0 (MQ below (va_Qi post (kB G M0 s.heap.size) (kA M0 s.heap.size)) ([.ref p0] : List Value).toArray s 0 0 (kA M0 s.heap.size)) (F0 m 4 ls []) := by
    intro n
    induction n with
    | zero =>
      intro  x0 x1 x2 M H locs ls h
      exact False.elim h
    | succ n ih =>
      intro  x0 x1 x2 M H locs ls h hl hR hS
      refine lv_iload_n hx hb dX2_clashingPairs_4 rfl (lv_at hl 2 rfl) ?_
      refine lv_bipush (v := (8 : Int32)) hx hb dX2_clashingPairs_5 (by decide) ?_
      obtain ⟨ha, hb2⟩ := h
      refine lv_icmp_ge (tgt := 70) hx hb dX2_clashingPairs_7 (by decide) (fun hc => ?_) (fun hc => ?_)
      · replace h := ha hc
        refine lv_iload_n hx hb dX2_clashingPairs_70 rfl (lv_at hl 1 rfl) ?_
        exact k_reti hx hb hr hlocks rfl hR hS h dX2_clashingPairs_71
      · replace h := hb2 hc
        refine lv_iload_n hx hb dX2_clashingPairs_10 rfl (lv_at hl 2 rfl) ?_
        refine lv_iconst (v := (1 : Int32)) hx hb dX2_clashingPairs_11 (by decide) ?_
        refine lv_iadd hx hb dX2_clashingPairs_12 ?_
        refine lv_istore_n (lv' := [(3, .int (x2 + (1 : Int32))), (0, .ref x0), (1, .int x1), (2, .int x2)]) hx hb dX2_clashingPairs_13 rfl hl (by decide) rfl (fun ls hl => ?_)
        obtain ⟨k2, h⟩ := h
        exact L14 _ ih k2 _ _ _ _ _ _ _ _ h (lv_sub hl [1, 2, 3, 0] rfl) hR hS
  have hl := lv_entry ([.ref p0]) (n := 4) (Nat.le_of_ble_eq_true rfl)
  rw [lg_entry_eq]
  generalize (lg_sl ([.ref p0]) ++ List.replicate (4 - (lg_sl ([.ref p0])).length) Slot.unset).toArray = ls at hl ⊢
  have hl : lv_has ls 4 [(0, .ref p0)] := hl
  have hR0 := hR
  refine lv_iconst (v := (0 : Int32)) hx hb dX2_clashingPairs_0 (by decide) ?_
  refine lv_istore_n (lv' := [(1, .int (0 : Int32)), (0, .ref p0)]) hx hb dX2_clashingPairs_1 rfl hl (by decide) rfl (fun ls hl => ?_)
  refine lv_iconst (v := (0 : Int32)) hx hb dX2_clashingPairs_2 (by decide) ?_
  refine lv_istore_n (lv' := [(2, .int (0 : Int32)), (1, .int (0 : Int32)), (0, .ref p0)]) hx hb dX2_clashingPairs_3 rfl hl (by decide) rfl (fun ls hl => ?_)
  obtain ⟨k1, h⟩ := h
  exact L4 k1 _ _ _ _ _ _ _ h (lv_sub hl [2, 1, 0] rfl) hR hS

def wp_X2_knotsOfHelpers_L4 (G : k_G) (post : Int32 → k_M → Prop) : Nat → Nat → Int32 → Int32 → k_M → Prop
  | 0 => fun _ _ _ _ => False
  | n + 1 => fun x0 x1 x2 M =>
  (((8 : Int32) ≤ x2 →
      post x1 M) ∧
      (¬ (8 : Int32) ≤ x2 →
      (∃ fs5, M x0 = some (kO 3 fs5) ∧ wp_X2_isHelper G (fun r2 M3 =>
        ((r2 = 0 →
        (wp_X2_knotsOfHelpers_L4 G post n) x0 x1 (x2 + (1 : Int32)) M3) ∧
        (¬ r2 = 0 →
        (∃ fs6 v7, M3 x0 = some (kO 3 fs6) ∧ fs6[1]? = some (.ref v7) ∧
          (∃ n10 f11 v12, M3 v7 = some (kO1 G n10 f11) ∧ vp_in x2 n10 ∧ f11 (x2).toNatClampNeg = some v12 ∧
          (∃ fs19, M3 v12 = some (kO 2 fs19) ∧ wp_X1_knots G (fun r16 M17 =>
          (wp_X2_knotsOfHelpers_L4 G post n) x0 (x1 + r16) (x2 + (1 : Int32)) M17) v12 M3)))))) x0 x2 M)))
def wp_X2_knotsOfHelpers (G : k_G) (post : Int32 → k_M → Prop) (p0 : Nat) (M0 : k_M) : Prop :=
  ∃ k1, wp_X2_knotsOfHelpers_L4 G post k1 p0 (0 : Int32) (0 : Int32) M0
theorem in_X2_knotsOfHelpers_X2 : ∀ w ∈ wsX20, w ∈ wsX2_knotsOfHelpers := by decide +kernel
set_option maxHeartbeats 4000000 in
set_option maxRecDepth 100000 in
theorem c_X2_knotsOfHelpers (l : Launch) (G : k_G) (M0 : k_M) (sz : Nat) (post : Int32 → k_M → Prop) (p0 : Nat) (h : wp_X2_knotsOfHelpers G post p0 M0) : Met l yX2_knotsOfHelpers wsX2_knotsOfHelpers ({ frames := 8, cells := 0, slots := 0, locals := 181 }) (va_Pc [.ref p0] (kPre G M0 sz)) (va_Qi post (kB G M0 sz) (kA M0 sz)) 0 0 (kA M0 sz) := by
  refine Met.ofW (cc := cX2_knotsOfHelpers) (maxL := 3) (ret := (some .int)) (by decide) rfl ?_
  intro p e s m args below meth c s₁ B hml hv
  obtain ⟨rfl, hsz, hR, hE⟩ := hv
  have hx := B.exec
  have hb := B.bytes
  have hr := B.returns
  have hts := atoms_spec (ws := wsX2_knotsOfHelpers) B.pre
  have hown : s.vm.findClass RX2 = some m.cls := findClass_of_methodNamed B.named
  have hlocks := B.notSynchronized
  subst hsz
  have hK := hE.1
  have hA : ∀ q, s.heap.size ≤ q → kA M0 s.heap.size q := kA.new
  have hS : va_S (kA M0 s.heap.size) s.heap s.heap [] := va_S.rf
  have hw1 := hts (.fieldLink RX2 17 "ForkedStamps$State" "helpers" "[LForkedStamps$Stamp;") (by decide +kernel)
  have L4 : ∀ (n : Nat), ∀ (x0 : Nat) (x1 : Int32) (x2 : Int32) (M : k_M) (H : Heap) (locs : List Loc) (ls : Array Slot), wp_X2_knotsOfHelpers_L4 G post n x0 x1 x2 M → lv_has ls 3 [(0, .ref x0), (1, .int x1), (2, .int x2)] → kR G M (kA M0 s.heap.size) H → va_S (kA M0 s.heap.size) s.heap H locs → W p l e (headSpec wsX2_knotsOfHelpers ({ frames := 8, cells := 0, slots := 0, locals := 181 })).room s m ([.ref p0] : List Value).toArray below meth c H locs 0 0 (MQ below (va_Qi post (kB G M0 s.heap.size) (kA M0 s.heap.size)) ([.ref p0] : List Value).toArray s 0 0 (kA M0 s.heap.size)) (F0 m 4 ls []) := by
    intro n
    induction n with
    | zero =>
      intro  x0 x1 x2 M H locs ls h
      exact False.elim h
    | succ n ih =>
      intro  x0 x1 x2 M H locs ls h hl hR hS
      refine lv_iload_n hx hb dX2_knotsOfHelpers_4 rfl (lv_at hl 2 rfl) ?_
      refine lv_bipush (v := (8 : Int32)) hx hb dX2_knotsOfHelpers_5 (by decide) ?_
      obtain ⟨ha, hb2⟩ := h
      refine lv_icmp_ge (tgt := 36) hx hb dX2_knotsOfHelpers_7 (by decide) (fun hc => ?_) (fun hc => ?_)
      · replace h := ha hc
        refine lv_iload_n hx hb dX2_knotsOfHelpers_36 rfl (lv_at hl 1 rfl) ?_
        exact k_reti hx hb hr hlocks rfl hR hS h dX2_knotsOfHelpers_37
      · replace h := hb2 hc
        refine lv_aload_n hx hb dX2_knotsOfHelpers_10 rfl (lv_at hl 0 rfl) ?_
        refine lv_iload_n hx hb dX2_knotsOfHelpers_11 rfl (lv_at hl 2 rfl) ?_
        obtain ⟨fs5, hm4, h⟩ := h
        refine k_calli0 (va_runV (As := [.int x2]) (rest := []) ⟨hx, hb, hml, hown, hts⟩ (c_X2_isHelper l G _ _ _ x0 x2 h) (cwV 1 hts gX2_knotsOfHelpers_X2_isHelper rfl rfl rfl (by decide +kernel) ⟨Nat.le_of_ble_eq_true rfl, Nat.le_of_ble_eq_true rfl⟩) (k_preV (q := (RX2, TX2, 7)) hm4 rfl hR hS hA hE) rfl rfl hl.1 rfl (lv_room (Nat.le_of_ble_eq_true rfl)) dX2_knotsOfHelpers_12 ⟨Nat.zero_le _, Nat.zero_le _⟩) hR hS hA (fun r2 M3 H locs h hR hS => ?_)
        obtain ⟨ha, hb2⟩ := h
        refine lv_if_eq (tgt := 30) hx hb dX2_knotsOfHelpers_15 (by decide) (fun hc => ?_) (fun hc => ?_)
        · replace h := ha hc
          refine lv_iinc (v := (x2 + (1 : Int32))) (lv' := [(2, .int (x2 + (1 : Int32))), (0, .ref x0), (1, .int x1)]) hx hb dX2_knotsOfHelpers_30 hl (k := 2) rfl rfl (by decide) rfl (fun ls hl => ?_)
          refine lv_goto (tgt := 4) hx hb dX2_knotsOfHelpers_33 (by decide) ?_
          exact ih _ _ _ _ _ _ _ h (lv_sub hl [1, 2, 0] rfl) hR hS
        · replace h := hb2 hc
          refine lv_iload_n hx hb dX2_knotsOfHelpers_18 rfl (lv_at hl 1 rfl) ?_
          refine lv_aload_n hx hb dX2_knotsOfHelpers_19 rfl (lv_at hl 0 rfl) ?_
          obtain ⟨fs6, v7, hm8, hv9, h⟩ := h
          refine k_get (ci := 3) (C := RX2) (T := TX2) (N := 7) hx hb hts in_X2_knotsOfHelpers_X2 hown hK hR hm8 rfl 1 (by decide) hw1 (fun _ h9 => h9) hv9 dX2_knotsOfHelpers_20 ?_
          refine lv_iload_n hx hb dX2_knotsOfHelpers_23 rfl (lv_at hl 2 rfl) ?_
          obtain ⟨n10, f11, v12, hm13, hv14, hq15, h⟩ := h
          refine k_ald1 hx hb hK hR hm13 hv14 hq15 dX2_knotsOfHelpers_24 ?_
          obtain ⟨fs19, hm18, h⟩ := h
          refine k_calli0 (va_runV (As := []) (rest := [.int x1]) ⟨hx, hb, hml, hown, hts⟩ (c_X1_knots l G _ _ _ v12 h) (cwV 0 hts gX2_knotsOfHelpers_X1_knots rfl rfl rfl (by decide +kernel) ⟨Nat.le_of_ble_eq_true rfl, Nat.le_of_ble_eq_true rfl⟩) (k_preV (q := (RX1, TX1, 3)) hm18 rfl hR hS hA hE) rfl rfl hl.1 rfl (lv_room (Nat.le_of_ble_eq_true rfl)) dX2_knotsOfHelpers_25 ⟨Nat.zero_le _, Nat.zero_le _⟩) hR hS hA (fun r16 M17 H locs h hR hS => ?_)
          refine lv_iadd hx hb dX2_knotsOfHelpers_28 ?_
          refine lv_istore_n (lv' := [(1, .int (x1 + r16)), (0, .ref x0), (2, .int x2)]) hx hb dX2_knotsOfHelpers_29 rfl hl (by decide) rfl (fun ls hl => ?_)
          refine lv_iinc (v := (x2 + (1 : Int32))) (lv' := [(2, .int (x2 + (1 : Int32))), (1, .int (x1 + r16)), (0, .ref x0)]) hx hb dX2_knotsOfHelpers_30 hl (k := 2) rfl rfl (by decide) rfl (fun ls hl => ?_)
          refine lv_goto (tgt := 4) hx hb dX2_knotsOfHelpers_33 (by decide) ?_
          exact ih _ _ _ _ _ _ _ h (lv_sub hl [2, 1, 0] rfl) hR hS
  have hl := lv_entry ([.ref p0]) (n := 3) (Nat.le_of_ble_eq_true rfl)
  rw [lg_entry_eq]
  generalize (lg_sl ([.ref p0]) ++ List.replicate (3 - (lg_sl ([.ref p0])).length) Slot.unset).toArray = ls at hl ⊢
  have hl : lv_has ls 3 [(0, .ref p0)] := hl
  have hR0 := hR
  refine lv_iconst (v := (0 : Int32)) hx hb dX2_knotsOfHelpers_0 (by decide) ?_
  refine lv_istore_n (lv' := [(1, .int (0 : Int32)), (0, .ref p0)]) hx hb dX2_knotsOfHelpers_1 rfl hl (by decide) rfl (fun ls hl => ?_)
  refine lv_iconst (v := (0 : Int32)) hx hb dX2_knotsOfHelpers_2 (by decide) ?_
  refine lv_istore_n (lv' := [(2, .int (0 : Int32)), (1, .int (0 : Int32)), (0, .ref p0)]) hx hb dX2_knotsOfHelpers_3 rfl hl (by decide) rfl (fun ls hl => ?_)
  obtain ⟨k1, h⟩ := h
  exact L4 k1 _ _ _ _ _ _ _ h (lv_sub hl [2, 1, 0] rfl) hR hS

def wp_X2_isForemost_L2 (G : k_G) (post : Int32 → k_M → Prop) : Nat → Nat → Int32 → Int32 → k_M → Prop
  | 0 => fun _ _ _ _ => False
  | n + 1 => fun x0 x1 x2 M =>
  (((8 : Int32) ≤ x2 →
      post (1 : Int32) M) ∧
      (¬ (8 : Int32) ≤ x2 →
      (∃ fs5, M x0 = some (kO 3 fs5) ∧ wp_X2_isHelper G (fun r2 M3 =>
        ((r2 = 0 →
        (wp_X2_isForemost_L2 G post n) x0 x1 (x2 + (1 : Int32)) M3) ∧
        (¬ r2 = 0 →
        (∃ fs6 v7, M3 x0 = some (kO 3 fs6) ∧ fs6[1]? = some (.ref v7) ∧
          (∃ n10 f11 v12, M3 v7 = some (kO1 G n10 f11) ∧ vp_in x2 n10 ∧ f11 (x2).toNatClampNeg = some v12 ∧
          (∃ fs16 v17, M3 x0 = some (kO 3 fs16) ∧ fs16[1]? = some (.ref v17) ∧
          (∃ n20 f21 v22, M3 v17 = some (kO1 G n20 f21) ∧ vp_in x1 n20 ∧ f21 (x1).toNatClampNeg = some v22 ∧
          (∃ fs29, M3 v12 = some (kO 2 fs29) ∧ wp_X1_orderTo G (fun r26 M27 =>
          ((r26 = (2 : Int32) →
          post (0 : Int32) M27) ∧
          (¬ r26 = (2 : Int32) →
          ((¬ r26 = (3 : Int32) →
            (wp_X2_isForemost_L2 G post n) x0 x1 (x2 + (1 : Int32)) M27) ∧
            (r26 = (3 : Int32) →
            post (0 : Int32) M27))))) v12 v22 M3)))))))) x0 x2 M)))
def wp_X2_isForemost (G : k_G) (post : Int32 → k_M → Prop) (p0 : Nat) (p1 : Int32) (M0 : k_M) : Prop :=
  ∃ k1, wp_X2_isForemost_L2 G post k1 p0 p1 (0 : Int32) M0
theorem in_X2_isForemost_X2 : ∀ w ∈ wsX20, w ∈ wsX2_isForemost := by decide +kernel
set_option maxHeartbeats 4000000 in
set_option maxRecDepth 100000 in
theorem c_X2_isForemost (l : Launch) (G : k_G) (M0 : k_M) (sz : Nat) (post : Int32 → k_M → Prop) (p0 : Nat) (p1 : Int32) (h : wp_X2_isForemost G post p0 p1 M0) : Met l yX2_isForemost wsX2_isForemost ({ frames := 1, cells := 0, slots := 0, locals := 24 }) (va_Pc [.ref p0, .int p1] (kPre G M0 sz)) (va_Qi post (kB G M0 sz) (kA M0 sz)) 0 0 (kA M0 sz) := by
  refine Met.ofW (cc := cX2_isForemost) (maxL := 4) (ret := (some .boolean)) (by decide) rfl ?_
  intro p e s m args below meth c s₁ B hml hv
  obtain ⟨rfl, hsz, hR, hE⟩ := hv
  have hx := B.exec
  have hb := B.bytes
  have hr := B.returns
  have hts := atoms_spec (ws := wsX2_isForemost) B.pre
  have hown : s.vm.findClass RX2 = some m.cls := findClass_of_methodNamed B.named
  have hlocks := B.notSynchronized
  subst hsz
  have hK := hE.1
  have hA : ∀ q, s.heap.size ≤ q → kA M0 s.heap.size q := kA.new
  have hS : va_S (kA M0 s.heap.size) s.heap s.heap [] := va_S.rf
  have hw1 := hts (.fieldLink RX2 17 "ForkedStamps$State" "helpers" "[LForkedStamps$Stamp;") (by decide +kernel)
  have L2 : ∀ (n : Nat), ∀ (x0 : Nat) (x1 : Int32) (x2 : Int32) (M : k_M) (H : Heap) (locs : List Loc) (ls : Array Slot), wp_X2_isForemost_L2 G post n x0 x1 x2 M → lv_has ls 4 [(0, .ref x0), (1, .int x1), (2, .int x2)] → kR G M (kA M0 s.heap.size) H → va_S (kA M0 s.heap.size) s.heap H locs → W p l e (headSpec wsX2_isForemost ({ frames := 1, cells := 0, slots := 0, locals := 24 })).room s m ([.ref p0, .int p1] : List Value).toArray below meth c H locs 0 0 (MQ below (va_Qi post (kB G M0 s.heap.size) (kA M0 s.heap.size)) ([.ref p0, .int p1] : List Value).toArray s 0 0 (kA M0 s.heap.size)) (F0 m 2 ls []) := by
    intro n
    induction n with
    | zero =>
      intro  x0 x1 x2 M H locs ls h
      exact False.elim h
    | succ n ih =>
      intro  x0 x1 x2 M H locs ls h hl hR hS
      refine lv_iload_n hx hb dX2_isForemost_2 rfl (lv_at hl 2 rfl) ?_
      refine lv_bipush (v := (8 : Int32)) hx hb dX2_isForemost_3 (by decide) ?_
      obtain ⟨ha, hb2⟩ := h
      refine lv_icmp_ge (tgt := 50) hx hb dX2_isForemost_5 (by decide) (fun hc => ?_) (fun hc => ?_)
      · replace h := ha hc
        refine lv_iconst (v := (1 : Int32)) hx hb dX2_isForemost_50 (by decide) ?_
        exact k_reti hx hb hr hlocks (by decide) hR hS h dX2_isForemost_51
      · replace h := hb2 hc
        refine lv_aload_n hx hb dX2_isForemost_8 rfl (lv_at hl 0 rfl) ?_
        refine lv_iload_n hx hb dX2_isForemost_9 rfl (lv_at hl 2 rfl) ?_
        obtain ⟨fs5, hm4, h⟩ := h
        refine k_calli0 (va_runV (As := [.int x2]) (rest := []) ⟨hx, hb, hml, hown, hts⟩ (c_X2_isHelper l G _ _ _ x0 x2 h) (cwV 1 hts gX2_isForemost_X2_isHelper rfl rfl rfl (by decide +kernel) ⟨Nat.le_of_ble_eq_true rfl, Nat.le_of_ble_eq_true rfl⟩) (k_preV (q := (RX2, TX2, 7)) hm4 rfl hR hS hA hE) rfl rfl hl.1 rfl (lv_room (Nat.le_of_ble_eq_true rfl)) dX2_isForemost_10 ⟨Nat.zero_le _, Nat.zero_le _⟩) hR hS hA (fun r2 M3 H locs h hR hS => ?_)
        obtain ⟨ha, hb2⟩ := h
        refine lv_if_eq (tgt := 44) hx hb dX2_isForemost_13 (by decide) (fun hc => ?_) (fun hc => ?_)
        · replace h := ha hc
          refine lv_iinc (v := (x2 + (1 : Int32))) (lv' := [(2, .int (x2 + (1 : Int32))), (0, .ref x0), (1, .int x1)]) hx hb dX2_isForemost_44 hl (k := 2) rfl rfl (by decide) rfl (fun ls hl => ?_)
          refine lv_goto (tgt := 2) hx hb dX2_isForemost_47 (by decide) ?_
          exact ih _ _ _ _ _ _ _ h (lv_sub hl [1, 2, 0] rfl) hR hS
        · replace h := hb2 hc
          refine lv_aload_n hx hb dX2_isForemost_16 rfl (lv_at hl 0 rfl) ?_
          obtain ⟨fs6, v7, hm8, hv9, h⟩ := h
          refine k_get (ci := 3) (C := RX2) (T := TX2) (N := 7) hx hb hts in_X2_isForemost_X2 hown hK hR hm8 rfl 1 (by decide) hw1 (fun _ h9 => h9) hv9 dX2_isForemost_17 ?_
          refine lv_iload_n hx hb dX2_isForemost_20 rfl (lv_at hl 2 rfl) ?_
          obtain ⟨n10, f11, v12, hm13, hv14, hq15, h⟩ := h
          refine k_ald1 hx hb hK hR hm13 hv14 hq15 dX2_isForemost_21 ?_
          refine lv_aload_n hx hb dX2_isForemost_22 rfl (lv_at hl 0 rfl) ?_
          obtain ⟨fs16, v17, hm18, hv19, h⟩ := h
          refine k_get (ci := 3) (C := RX2) (T := TX2) (N := 7) hx hb hts in_X2_isForemost_X2 hown hK hR hm18 rfl 1 (by decide) hw1 (fun _ h9 => h9) hv19 dX2_isForemost_23 ?_
          refine lv_iload_n hx hb dX2_isForemost_26 rfl (lv_at hl 1 rfl) ?_
          obtain ⟨n20, f21, v22, hm23, hv24, hq25, h⟩ := h
          refine k_ald1 hx hb hK hR hm23 hv24 hq25 dX2_isForemost_27 ?_
          obtain ⟨fs29, hm28, h⟩ := h
          refine k_calli0 (va_runV (As := [.ref v22]) (rest := []) ⟨hx, hb, hml, hown, hts⟩ (c_X1_orderTo l G _ _ _ v12 v22 h) (cwV 1 hts gX2_isForemost_X1_orderTo rfl rfl rfl (by decide +kernel) ⟨Nat.le_of_ble_eq_true rfl, Nat.le_of_ble_eq_true rfl⟩) (k_preV (q := (RX1, TX1, 3)) hm28 rfl hR hS hA hE) rfl rfl hl.1 rfl (lv_room (Nat.le_of_ble_eq_true rfl)) dX2_isForemost_28 ⟨Nat.zero_le _, Nat.zero_le _⟩) hR hS hA (fun r26 M27 H locs h hR hS => ?_)
          refine lv_istore_n (lv' := [(3, .int r26), (0, .ref x0), (1, .int x1), (2, .int x2)]) hx hb dX2_isForemost_31 rfl hl (by decide) rfl (fun ls hl => ?_)
          refine lv_iload_n hx hb dX2_isForemost_32 rfl (lv_at hl 0 rfl) ?_
          refine lv_iconst (v := (2 : Int32)) hx hb dX2_isForemost_33 (by decide) ?_
          obtain ⟨ha, hb2⟩ := h
          refine lv_icmp_eq (tgt := 42) hx hb dX2_isForemost_34 (by decide) (fun hc => ?_) (fun hc => ?_)
          · replace h := ha hc
            refine lv_iconst (v := (0 : Int32)) hx hb dX2_isForemost_42 (by decide) ?_
            exact k_reti hx hb hr hlocks (by decide) hR hS h dX2_isForemost_43
          · replace h := hb2 hc
            refine lv_iload_n hx hb dX2_isForemost_37 rfl (lv_at hl 0 rfl) ?_
            refine lv_iconst (v := (3 : Int32)) hx hb dX2_isForemost_38 (by decide) ?_
            obtain ⟨ha, hb2⟩ := h
            refine lv_icmp_ne (tgt := 44) hx hb dX2_isForemost_39 (by decide) (fun hc => ?_) (fun hc => ?_)
            · replace h := ha hc
              refine lv_iinc (v := (x2 + (1 : Int32))) (lv' := [(2, .int (x2 + (1 : Int32))), (3, .int r26), (0, .ref x0), (1, .int x1)]) hx hb dX2_isForemost_44 hl (k := 3) rfl rfl (by decide) rfl (fun ls hl => ?_)
              refine lv_goto (tgt := 2) hx hb dX2_isForemost_47 (by decide) ?_
              exact ih _ _ _ _ _ _ _ h (lv_sub hl [2, 3, 0] rfl) hR hS
            · replace h := hb2 hc
              refine lv_iconst (v := (0 : Int32)) hx hb dX2_isForemost_42 (by decide) ?_
              exact k_reti hx hb hr hlocks (by decide) hR hS h dX2_isForemost_43
  have hl := lv_entry ([.ref p0, .int p1]) (n := 4) (Nat.le_of_ble_eq_true rfl)
  rw [lg_entry_eq]
  generalize (lg_sl ([.ref p0, .int p1]) ++ List.replicate (4 - (lg_sl ([.ref p0, .int p1])).length) Slot.unset).toArray = ls at hl ⊢
  have hl : lv_has ls 4 [(0, .ref p0), (1, .int p1)] := hl
  have hR0 := hR
  refine lv_iconst (v := (0 : Int32)) hx hb dX2_isForemost_0 (by decide) ?_
  refine lv_istore_n (lv' := [(2, .int (0 : Int32)), (0, .ref p0), (1, .int p1)]) hx hb dX2_isForemost_1 rfl hl (by decide) rfl (fun ls hl => ?_)
  obtain ⟨k1, h⟩ := h
  exact L2 k1 _ _ _ _ _ _ _ h (lv_sub hl [1, 2, 0] rfl) hR hS

def wp_X2_foremost_L2 (G : k_G) (post : Int32 → k_M → Prop) : Nat → Nat → Int32 → k_M → Prop
  | 0 => fun _ _ _ => False
  | n + 1 => fun x0 x1 M =>
  (((8 : Int32) ≤ x1 →
      post (-6 : Int32) M) ∧
      (¬ (8 : Int32) ≤ x1 →
      (∃ fs5, M x0 = some (kO 3 fs5) ∧ wp_X2_isHelper G (fun r2 M3 =>
        ((r2 = 0 →
        (wp_X2_foremost_L2 G post n) x0 (x1 + (1 : Int32)) M3) ∧
        (¬ r2 = 0 →
        (∃ fs9, M3 x0 = some (kO 3 fs9) ∧ wp_X2_isForemost G (fun r6 M7 =>
          ((r6 = 0 →
          (wp_X2_foremost_L2 G post n) x0 (x1 + (1 : Int32)) M7) ∧
          (¬ r6 = 0 →
          post x1 M7))) x0 x1 M3)))) x0 x1 M)))
def wp_X2_foremost (G : k_G) (post : Int32 → k_M → Prop) (p0 : Nat) (M0 : k_M) : Prop :=
  ∃ k1, wp_X2_foremost_L2 G post k1 p0 (0 : Int32) M0
set_option maxHeartbeats 4000000 in
set_option maxRecDepth 100000 in
theorem c_X2_foremost (l : Launch) (G : k_G) (M0 : k_M) (sz : Nat) (post : Int32 → k_M → Prop) (p0 : Nat) (h : wp_X2_foremost G post p0 M0) : Met l yX2_foremost wsX2_foremost ({ frames := 2, cells := 0, slots := 0, locals := 47 }) (va_Pc [.ref p0] (kPre G M0 sz)) (va_Qi post (kB G M0 sz) (kA M0 sz)) 0 0 (kA M0 sz) := by
  refine Met.ofW (cc := cX2_foremost) (maxL := 2) (ret := (some .int)) (by decide) rfl ?_
  intro p e s m args below meth c s₁ B hml hv
  obtain ⟨rfl, hsz, hR, hE⟩ := hv
  have hx := B.exec
  have hb := B.bytes
  have hr := B.returns
  have hts := atoms_spec (ws := wsX2_foremost) B.pre
  have hown : s.vm.findClass RX2 = some m.cls := findClass_of_methodNamed B.named
  have hlocks := B.notSynchronized
  subst hsz
  have hK := hE.1
  have hA : ∀ q, s.heap.size ≤ q → kA M0 s.heap.size q := kA.new
  have hS : va_S (kA M0 s.heap.size) s.heap s.heap [] := va_S.rf
  have L2 : ∀ (n : Nat), ∀ (x0 : Nat) (x1 : Int32) (M : k_M) (H : Heap) (locs : List Loc) (ls : Array Slot), wp_X2_foremost_L2 G post n x0 x1 M → lv_has ls 2 [(0, .ref x0), (1, .int x1)] → kR G M (kA M0 s.heap.size) H → va_S (kA M0 s.heap.size) s.heap H locs → W p l e (headSpec wsX2_foremost ({ frames := 2, cells := 0, slots := 0, locals := 47 })).room s m ([.ref p0] : List Value).toArray below meth c H locs 0 0 (MQ below (va_Qi post (kB G M0 s.heap.size) (kA M0 s.heap.size)) ([.ref p0] : List Value).toArray s 0 0 (kA M0 s.heap.size)) (F0 m 2 ls []) := by
    intro n
    induction n with
    | zero =>
      intro  x0 x1 M H locs ls h
      exact False.elim h
    | succ n ih =>
      intro  x0 x1 M H locs ls h hl hR hS
      refine lv_iload_n hx hb dX2_foremost_2 rfl (lv_at hl 1 rfl) ?_
      refine lv_bipush (v := (8 : Int32)) hx hb dX2_foremost_3 (by decide) ?_
      obtain ⟨ha, hb2⟩ := h
      refine lv_icmp_ge (tgt := 32) hx hb dX2_foremost_5 (by decide) (fun hc => ?_) (fun hc => ?_)
      · replace h := ha hc
        refine lv_bipush (v := (-6 : Int32)) hx hb dX2_foremost_32 (by decide) ?_
        exact k_reti hx hb hr hlocks rfl hR hS h dX2_foremost_34
      · replace h := hb2 hc
        refine lv_aload_n hx hb dX2_foremost_8 rfl (lv_at hl 0 rfl) ?_
        refine lv_iload_n hx hb dX2_foremost_9 rfl (lv_at hl 1 rfl) ?_
        obtain ⟨fs5, hm4, h⟩ := h
        refine k_calli0 (va_runV (As := [.int x1]) (rest := []) ⟨hx, hb, hml, hown, hts⟩ (c_X2_isHelper l G _ _ _ x0 x1 h) (cwV 1 hts gX2_foremost_X2_isHelper rfl rfl rfl (by decide +kernel) ⟨Nat.le_of_ble_eq_true rfl, Nat.le_of_ble_eq_true rfl⟩) (k_preV (q := (RX2, TX2, 7)) hm4 rfl hR hS hA hE) rfl rfl hl.1 rfl (lv_room (Nat.le_of_ble_eq_true rfl)) dX2_foremost_10 ⟨Nat.zero_le _, Nat.zero_le _⟩) hR hS hA (fun r2 M3 H locs h hR hS => ?_)
        obtain ⟨ha, hb2⟩ := h
        refine lv_if_eq (tgt := 26) hx hb dX2_foremost_13 (by decide) (fun hc => ?_) (fun hc => ?_)
        · replace h := ha hc
          refine lv_iinc (v := (x1 + (1 : Int32))) (lv' := [(1, .int (x1 + (1 : Int32))), (0, .ref x0)]) hx hb dX2_foremost_26 hl (k := 1) rfl rfl (by decide) rfl (fun ls hl => ?_)
          refine lv_goto (tgt := 2) hx hb dX2_foremost_29 (by decide) ?_
          exact ih _ _ _ _ _ _ h (lv_sub hl [1, 0] rfl) hR hS
        · replace h := hb2 hc
          refine lv_aload_n hx hb dX2_foremost_16 rfl (lv_at hl 0 rfl) ?_
          refine lv_iload_n hx hb dX2_foremost_17 rfl (lv_at hl 1 rfl) ?_
          obtain ⟨fs9, hm8, h⟩ := h
          refine k_calli0 (va_runV (As := [.int x1]) (rest := []) ⟨hx, hb, hml, hown, hts⟩ (c_X2_isForemost l G _ _ _ x0 x1 h) (cwV 1 hts gX2_foremost_X2_isForemost rfl rfl rfl (by decide +kernel) ⟨Nat.le_of_ble_eq_true rfl, Nat.le_of_ble_eq_true rfl⟩) (k_preV (q := (RX2, TX2, 7)) hm8 rfl hR hS hA hE) rfl rfl hl.1 rfl (lv_room (Nat.le_of_ble_eq_true rfl)) dX2_foremost_18 ⟨Nat.zero_le _, Nat.zero_le _⟩) hR hS hA (fun r6 M7 H locs h hR hS => ?_)
          obtain ⟨ha, hb2⟩ := h
          refine lv_if_eq (tgt := 26) hx hb dX2_foremost_21 (by decide) (fun hc => ?_) (fun hc => ?_)
          · replace h := ha hc
            refine lv_iinc (v := (x1 + (1 : Int32))) (lv' := [(1, .int (x1 + (1 : Int32))), (0, .ref x0)]) hx hb dX2_foremost_26 hl (k := 1) rfl rfl (by decide) rfl (fun ls hl => ?_)
            refine lv_goto (tgt := 2) hx hb dX2_foremost_29 (by decide) ?_
            exact ih _ _ _ _ _ _ h (lv_sub hl [1, 0] rfl) hR hS
          · replace h := hb2 hc
            refine lv_iload_n hx hb dX2_foremost_24 rfl (lv_at hl 1 rfl) ?_
            exact k_reti hx hb hr hlocks rfl hR hS h dX2_foremost_25
  have hl := lv_entry ([.ref p0]) (n := 2) (Nat.le_of_ble_eq_true rfl)
  rw [lg_entry_eq]
  generalize (lg_sl ([.ref p0]) ++ List.replicate (2 - (lg_sl ([.ref p0])).length) Slot.unset).toArray = ls at hl ⊢
  have hl : lv_has ls 2 [(0, .ref p0)] := hl
  have hR0 := hR
  refine lv_iconst (v := (0 : Int32)) hx hb dX2_foremost_0 (by decide) ?_
  refine lv_istore_n (lv' := [(1, .int (0 : Int32)), (0, .ref p0)]) hx hb dX2_foremost_1 rfl hl (by decide) rfl (fun ls hl => ?_)
  obtain ⟨k1, h⟩ := h
  exact L2 k1 _ _ _ _ _ _ h (lv_sub hl [1, 0] rfl) hR hS

def wp_X2_leastKnowing_L7 (G : k_G) (post : Int32 → k_M → Prop) : Nat → Nat → Int32 → Int32 → Int32 → k_M → Prop
  | 0 => fun _ _ _ _ _ => False
  | n + 1 => fun x0 x1 x2 x3 M =>
  (((8 : Int32) ≤ x3 →
      post x1 M) ∧
      (¬ (8 : Int32) ≤ x3 →
      (∃ fs5, M x0 = some (kO 3 fs5) ∧ wp_X2_isHelper G (fun r2 M3 =>
        ((r2 = 0 →
        (wp_X2_leastKnowing_L7 G post n) x0 x1 x2 (x3 + (1 : Int32)) M3) ∧
        (¬ r2 = 0 →
        (∃ fs6 v7, M3 x0 = some (kO 3 fs6) ∧ fs6[1]? = some (.ref v7) ∧
          (∃ n10 f11 v12, M3 v7 = some (kO1 G n10 f11) ∧ vp_in x3 n10 ∧ f11 (x3).toNatClampNeg = some v12 ∧
          (∃ fs19, M3 v12 = some (kO 2 fs19) ∧ wp_X1_knownCount G (fun r16 M17 =>
          ((x2 ≤ r16 →
          (wp_X2_leastKnowing_L7 G post n) x0 x1 x2 (x3 + (1 : Int32)) M17) ∧
          (¬ x2 ≤ r16 →
          (∃ fs20 v21, M17 x0 = some (kO 3 fs20) ∧ fs20[1]? = some (.ref v21) ∧
            (∃ n24 f25 v26, M17 v21 = some (kO1 G n24 f25) ∧ vp_in x3 n24 ∧ f25 (x3).toNatClampNeg = some v26 ∧
            (∃ fs33, M17 v26 = some (kO 2 fs33) ∧ wp_X1_knownCount G (fun r30 M31 =>
            (wp_X2_leastKnowing_L7 G post n) x0 x3 r30 (x3 + (1 : Int32)) M31) v26 M17)))))) v12 M3)))))) x0 x3 M)))
def wp_X2_leastKnowing (G : k_G) (post : Int32 → k_M → Prop) (p0 : Nat) (M0 : k_M) : Prop :=
  ∃ k1, wp_X2_leastKnowing_L7 G post k1 p0 (0 : Int32) (121 : Int32) (0 : Int32) M0
theorem in_X2_leastKnowing_X2 : ∀ w ∈ wsX20, w ∈ wsX2_leastKnowing := by decide +kernel
set_option maxHeartbeats 4000000 in
set_option maxRecDepth 100000 in
theorem c_X2_leastKnowing (l : Launch) (G : k_G) (M0 : k_M) (sz : Nat) (post : Int32 → k_M → Prop) (p0 : Nat) (h : wp_X2_leastKnowing G post p0 M0) : Met l yX2_leastKnowing wsX2_leastKnowing ({ frames := 2, cells := 0, slots := 0, locals := 41 }) (va_Pc [.ref p0] (kPre G M0 sz)) (va_Qi post (kB G M0 sz) (kA M0 sz)) 0 0 (kA M0 sz) := by
  refine Met.ofW (cc := cX2_leastKnowing) (maxL := 4) (ret := (some .int)) (by decide) rfl ?_
  intro p e s m args below meth c s₁ B hml hv
  obtain ⟨rfl, hsz, hR, hE⟩ := hv
  have hx := B.exec
  have hb := B.bytes
  have hr := B.returns
  have hts := atoms_spec (ws := wsX2_leastKnowing) B.pre
  have hown : s.vm.findClass RX2 = some m.cls := findClass_of_methodNamed B.named
  have hlocks := B.notSynchronized
  subst hsz
  have hK := hE.1
  have hA : ∀ q, s.heap.size ≤ q → kA M0 s.heap.size q := kA.new
  have hS : va_S (kA M0 s.heap.size) s.heap s.heap [] := va_S.rf
  have hw1 := hts (.fieldLink RX2 17 "ForkedStamps$State" "helpers" "[LForkedStamps$Stamp;") (by decide +kernel)
  have L7 : ∀ (n : Nat), ∀ (x0 : Nat) (x1 : Int32) (x2 : Int32) (x3 : Int32) (M : k_M) (H : Heap) (locs : List Loc) (ls : Array Slot), wp_X2_leastKnowing_L7 G post n x0 x1 x2 x3 M → lv_has ls 4 [(0, .ref x0), (1, .int x1), (2, .int x2), (3, .int x3)] → kR G M (kA M0 s.heap.size) H → va_S (kA M0 s.heap.size) s.heap H locs → W p l e (headSpec wsX2_leastKnowing ({ frames := 2, cells := 0, slots := 0, locals := 41 })).room s m ([.ref p0] : List Value).toArray below meth c H locs 0 0 (MQ below (va_Qi post (kB G M0 s.heap.size) (kA M0 s.heap.size)) ([.ref p0] : List Value).toArray s 0 0 (kA M0 s.heap.size)) (F0 m 7 ls []) := by
    intro n
    induction n with
    | zero =>
      intro  x0 x1 x2 x3 M H locs ls h
      exact False.elim h
    | succ n ih =>
      intro  x0 x1 x2 x3 M H locs ls h hl hR hS
      refine lv_iload_n hx hb dX2_leastKnowing_7 rfl (lv_at hl 3 rfl) ?_
      refine lv_bipush (v := (8 : Int32)) hx hb dX2_leastKnowing_8 (by decide) ?_
      obtain ⟨ha, hb2⟩ := h
      refine lv_icmp_ge (tgt := 52) hx hb dX2_leastKnowing_10 (by decide) (fun hc => ?_) (fun hc => ?_)
      · replace h := ha hc
        refine lv_iload_n hx hb dX2_leastKnowing_52 rfl (lv_at hl 1 rfl) ?_
        exact k_reti hx hb hr hlocks rfl hR hS h dX2_leastKnowing_53
      · replace h := hb2 hc
        refine lv_aload_n hx hb dX2_leastKnowing_13 rfl (lv_at hl 0 rfl) ?_
        refine lv_iload_n hx hb dX2_leastKnowing_14 rfl (lv_at hl 3 rfl) ?_
        obtain ⟨fs5, hm4, h⟩ := h
        refine k_calli0 (va_runV (As := [.int x3]) (rest := []) ⟨hx, hb, hml, hown, hts⟩ (c_X2_isHelper l G _ _ _ x0 x3 h) (cwV 1 hts gX2_leastKnowing_X2_isHelper rfl rfl rfl (by decide +kernel) ⟨Nat.le_of_ble_eq_true rfl, Nat.le_of_ble_eq_true rfl⟩) (k_preV (q := (RX2, TX2, 7)) hm4 rfl hR hS hA hE) rfl rfl hl.1 rfl (lv_room (Nat.le_of_ble_eq_true rfl)) dX2_leastKnowing_15 ⟨Nat.zero_le _, Nat.zero_le _⟩) hR hS hA (fun r2 M3 H locs h hR hS => ?_)
        obtain ⟨ha, hb2⟩ := h
        refine lv_if_eq (tgt := 46) hx hb dX2_leastKnowing_18 (by decide) (fun hc => ?_) (fun hc => ?_)
        · replace h := ha hc
          refine lv_iinc (v := (x3 + (1 : Int32))) (lv' := [(3, .int (x3 + (1 : Int32))), (0, .ref x0), (1, .int x1), (2, .int x2)]) hx hb dX2_leastKnowing_46 hl (k := 3) rfl rfl (by decide) rfl (fun ls hl => ?_)
          refine lv_goto (tgt := 7) hx hb dX2_leastKnowing_49 (by decide) ?_
          exact ih _ _ _ _ _ _ _ _ h (lv_sub hl [1, 2, 3, 0] rfl) hR hS
        · replace h := hb2 hc
          refine lv_aload_n hx hb dX2_leastKnowing_21 rfl (lv_at hl 0 rfl) ?_
          obtain ⟨fs6, v7, hm8, hv9, h⟩ := h
          refine k_get (ci := 3) (C := RX2) (T := TX2) (N := 7) hx hb hts in_X2_leastKnowing_X2 hown hK hR hm8 rfl 1 (by decide) hw1 (fun _ h9 => h9) hv9 dX2_leastKnowing_22 ?_
          refine lv_iload_n hx hb dX2_leastKnowing_25 rfl (lv_at hl 3 rfl) ?_
          obtain ⟨n10, f11, v12, hm13, hv14, hq15, h⟩ := h
          refine k_ald1 hx hb hK hR hm13 hv14 hq15 dX2_leastKnowing_26 ?_
          obtain ⟨fs19, hm18, h⟩ := h
          refine k_calli0 (va_runV (As := []) (rest := []) ⟨hx, hb, hml, hown, hts⟩ (c_X1_knownCount l G _ _ _ v12 h) (cwV 0 hts gX2_leastKnowing_X1_knownCount rfl rfl rfl (by decide +kernel) ⟨Nat.le_of_ble_eq_true rfl, Nat.le_of_ble_eq_true rfl⟩) (k_preV (q := (RX1, TX1, 3)) hm18 rfl hR hS hA hE) rfl rfl hl.1 rfl (lv_room (Nat.le_of_ble_eq_true rfl)) dX2_leastKnowing_27 ⟨Nat.zero_le _, Nat.zero_le _⟩) hR hS hA (fun r16 M17 H locs h hR hS => ?_)
          refine lv_iload_n hx hb dX2_leastKnowing_30 rfl (lv_at hl 2 rfl) ?_
          obtain ⟨ha, hb2⟩ := h
          refine lv_icmp_ge (tgt := 46) hx hb dX2_leastKnowing_31 (by decide) (fun hc => ?_) (fun hc => ?_)
          · replace h := ha hc
            refine lv_iinc (v := (x3 + (1 : Int32))) (lv' := [(3, .int (x3 + (1 : Int32))), (0, .ref x0), (1, .int x1), (2, .int x2)]) hx hb dX2_leastKnowing_46 hl (k := 3) rfl rfl (by decide) rfl (fun ls hl => ?_)
            refine lv_goto (tgt := 7) hx hb dX2_leastKnowing_49 (by decide) ?_
            exact ih _ _ _ _ _ _ _ _ h (lv_sub hl [1, 2, 3, 0] rfl) hR hS
          · replace h := hb2 hc
            refine lv_iload_n hx hb dX2_leastKnowing_34 rfl (lv_at hl 3 rfl) ?_
            refine lv_istore_n (lv' := [(1, .int x3), (0, .ref x0), (2, .int x2), (3, .int x3)]) hx hb dX2_leastKnowing_35 rfl hl (by decide) rfl (fun ls hl => ?_)
            refine lv_aload_n hx hb dX2_leastKnowing_36 rfl (lv_at hl 1 rfl) ?_
            obtain ⟨fs20, v21, hm22, hv23, h⟩ := h
            refine k_get (ci := 3) (C := RX2) (T := TX2) (N := 7) hx hb hts in_X2_leastKnowing_X2 hown hK hR hm22 rfl 1 (by decide) hw1 (fun _ h9 => h9) hv23 dX2_leastKnowing_37 ?_
            refine lv_iload_n hx hb dX2_leastKnowing_40 rfl (lv_at hl 3 rfl) ?_
            obtain ⟨n24, f25, v26, hm27, hv28, hq29, h⟩ := h
            refine k_ald1 hx hb hK hR hm27 hv28 hq29 dX2_leastKnowing_41 ?_
            obtain ⟨fs33, hm32, h⟩ := h
            refine k_calli0 (va_runV (As := []) (rest := []) ⟨hx, hb, hml, hown, hts⟩ (c_X1_knownCount l G _ _ _ v26 h) (cwV 0 hts gX2_leastKnowing_X1_knownCount rfl rfl rfl (by decide +kernel) ⟨Nat.le_of_ble_eq_true rfl, Nat.le_of_ble_eq_true rfl⟩) (k_preV (q := (RX1, TX1, 3)) hm32 rfl hR hS hA hE) rfl rfl hl.1 rfl (lv_room (Nat.le_of_ble_eq_true rfl)) dX2_leastKnowing_42 ⟨Nat.zero_le _, Nat.zero_le _⟩) hR hS hA (fun r30 M31 H locs h hR hS => ?_)
            refine lv_istore_n (lv' := [(2, .int r30), (1, .int x3), (0, .ref x0), (3, .int x3)]) hx hb dX2_leastKnowing_45 rfl hl (by decide) rfl (fun ls hl => ?_)
            refine lv_iinc (v := (x3 + (1 : Int32))) (lv' := [(3, .int (x3 + (1 : Int32))), (2, .int r30), (1, .int x3), (0, .ref x0)]) hx hb dX2_leastKnowing_46 hl (k := 3) rfl rfl (by decide) rfl (fun ls hl => ?_)
            refine lv_goto (tgt := 7) hx hb dX2_leastKnowing_49 (by decide) ?_
            exact ih _ _ _ _ _ _ _ _ h (lv_sub hl [3, 2, 1, 0] rfl) hR hS
  have hl := lv_entry ([.ref p0]) (n := 4) (Nat.le_of_ble_eq_true rfl)
  rw [lg_entry_eq]
  generalize (lg_sl ([.ref p0]) ++ List.replicate (4 - (lg_sl ([.ref p0])).length) Slot.unset).toArray = ls at hl ⊢
  have hl : lv_has ls 4 [(0, .ref p0)] := hl
  have hR0 := hR
  refine lv_iconst (v := (0 : Int32)) hx hb dX2_leastKnowing_0 (by decide) ?_
  refine lv_istore_n (lv' := [(1, .int (0 : Int32)), (0, .ref p0)]) hx hb dX2_leastKnowing_1 rfl hl (by decide) rfl (fun ls hl => ?_)
  refine lv_bipush (v := (121 : Int32)) hx hb dX2_leastKnowing_2 (by decide) ?_
  refine lv_istore_n (lv' := [(2, .int (121 : Int32)), (1, .int (0 : Int32)), (0, .ref p0)]) hx hb dX2_leastKnowing_4 rfl hl (by decide) rfl (fun ls hl => ?_)
  refine lv_iconst (v := (0 : Int32)) hx hb dX2_leastKnowing_5 (by decide) ?_
  refine lv_istore_n (lv' := [(3, .int (0 : Int32)), (2, .int (121 : Int32)), (1, .int (0 : Int32)), (0, .ref p0)]) hx hb dX2_leastKnowing_6 rfl hl (by decide) rfl (fun ls hl => ?_)
  obtain ⟨k1, h⟩ := h
  exact L7 k1 _ _ _ _ _ _ _ _ h (lv_sub hl [3, 2, 1, 0] rfl) hR hS
