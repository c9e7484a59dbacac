def wp_X4_fork_b41 (G : k_G) (post : Int32 → k_M → Prop) (x2 : Int32) (M : k_M) : Prop :=
  ((¬ x2 = (-6 : Int32) →
    post (-5 : Int32) M) ∧
    (x2 = (-6 : Int32) →
    post (-4 : Int32) M))
def wp_X4_fork_L96 (G : k_G) (post : Int32 → k_M → Prop) : Nat → Nat → Int32 → Int32 → Int32 → Int32 → Int32 → Int32 → k_M → Prop
  | 0 => fun _ _ _ _ _ _ _ _ => False
  | n + 1 => fun x0 x1 x2 x3 x4 x5 x6 M =>
  (((16 : Int32) ≤ x6 →
      (∃ fs49 v50, M x0 = some (kO 5 fs49) ∧ fs49[0]? = some (.ref v50) ∧
        wp_X4_helperAt G (fun r53 M54 =>
        (∃ n56 f57, M54 v50 = some (kI G n56 f57) ∧ vp_in (r53 + (0 : Int32)) n56 ∧ ∀ M58 : k_M, M58 = va_up M54 v50 (some (kI G n56 (upd f57 ((r53 + (0 : Int32))).toNatClampNeg x4))) →
        (∃ fs61 v62, M58 x0 = some (kO 5 fs61) ∧ fs61[0]? = some (.ref v62) ∧
        wp_X4_helperAt G (fun r65 M66 =>
        (∃ n68 f69, M66 v62 = some (kI G n68 f69) ∧ vp_in (r65 + (0 : Int32)) n68 ∧ ∀ M70 : k_M, M70 = va_up M66 v62 (some (kI G n68 (upd f69 ((r65 + (0 : Int32))).toNatClampNeg (x3 &&& (x4 ^^^ (-1 : Int32)))))) →
        (∃ fs73 v74, M70 x0 = some (kO 5 fs73) ∧ fs73[0]? = some (.ref v74) ∧
        (∃ n77 f78, M70 v74 = some (kI G n77 f78) ∧ vp_in (0 : Int32) n77 ∧
        (∃ n81 f82, M70 v74 = some (kI G n81 f82) ∧ vp_in (0 : Int32) n81 ∧ ∀ M83 : k_M, M83 = va_up M70 v74 (some (kI G n81 (upd f82 ((0 : Int32)).toNatClampNeg ((f78 ((0 : Int32)).toNatClampNeg) ||| ((1 : Int32) <<< (x2 &&& 31)))))) →
        post x2 M83))))) x2 M58))) x1 M)) ∧
      (¬ (16 : Int32) ≤ x6 →
      ((¬ ((x3 >>> (x6 &&& 31)) &&& (1 : Int32)) = (1 : Int32) →
        (wp_X4_fork_L96 G post n) x0 x1 x2 x3 x4 x5 (x6 + (1 : Int32)) M) ∧
        (((x3 >>> (x6 &&& 31)) &&& (1 : Int32)) = (1 : Int32) →
        ((x5 ≤ 0 →
          (wp_X4_fork_L96 G post n) x0 x1 x2 x3 x4 x5 (x6 + (1 : Int32)) M) ∧
          (¬ x5 ≤ 0 →
          (wp_X4_fork_L96 G post n) x0 x1 x2 x3 (x4 ||| ((1 : Int32) <<< (x6 &&& 31))) (x5 + (-1 : Int32)) (x6 + (1 : Int32)) M))))))
def wp_X4_fork (G : k_G) (post : Int32 → k_M → Prop) (p0 : Nat) (p1 : Int32) (M0 : k_M) : Prop :=
  (∃ fs4, M0 p0 = some (kO 5 fs4) ∧ wp_X4_isHelper G (fun r1 M2 =>
  ((¬ r1 = 0 →
  (∃ fs8, M2 p0 = some (kO 5 fs8) ∧ wp_X4_freeNumber G (fun r5 M6 =>
    (∃ fs9 v10, M6 p0 = some (kO 5 fs9) ∧ fs9[0]? = some (.ref v10) ∧
    wp_X4_helperAt G (fun r13 M14 =>
    (∃ n16 f17, M14 v10 = some (kI G n16 f17) ∧ vp_in (r13 + (0 : Int32)) n16 ∧
    (∀ y20 : Int32, y20 = (f17 ((r13 + (0 : Int32))).toNatClampNeg) →
    ((r5 = (-6 : Int32) →
    wp_X4_fork_b41 G post r5 M14) ∧
    (¬ r5 = (-6 : Int32) →
    wp_X4_bits G (fun r21 M22 =>
      ((¬ r21 = (1 : Int32) →
      (∃ fs27, M22 p0 = some (kO 5 fs27) ∧ wp_X4_record G (fun M25 =>
        (∃ fs28 v29, M25 p0 = some (kO 5 fs28) ∧ fs28[0]? = some (.ref v29) ∧
        wp_X4_helperAt G (fun r32 M33 =>
        (∃ fs35 v36, M33 p0 = some (kO 5 fs35) ∧ fs35[0]? = some (.ref v36) ∧
        wp_X4_helperAt G (fun r39 M40 =>
        wp_X4_moves G (fun M43 =>
        wp_X4_bits G (fun r45 M46 =>
        ∃ k48, wp_X4_fork_L96 G post k48 p0 p1 r5 y20 (0 : Int32) ((r45 + (1 : Int32)) / (2 : Int32)) (0 : Int32) M46) y20 M43) v29 r32 v36 r39 (21 : Int32) M40) r5 M33)) p1 M25)) p0 M22)) ∧
      (r21 = (1 : Int32) →
      wp_X4_fork_b41 G post r5 M22))) y20 M14))))) p1 M6)) p0 M2)) ∧
  (r1 = 0 →
  post (-1 : Int32) M2))) p0 p1 M0)
theorem in_X4_fork_X4 : ∀ w ∈ wsX40, w ∈ wsX4_fork := by decide +kernel
set_option maxHeartbeats 4000000 in
set_option maxRecDepth 100000 in
theorem c_X4_fork (l : Launch) (G : k_G) (M0 : k_M) (sz : Nat) (post : Int32 → k_M → Prop) (p0 : Nat) (p1 : Int32) (h : wp_X4_fork G post p0 p1 M0) : Met l yX4_fork wsX4_fork ({ frames := 3, cells := 0, slots := 0, locals := 65 }) (va_Pc [.ref p0, .int p1] (kPre G M0 sz)) (va_Qi post (kB G M0 sz) (kA M0 sz)) 0 0 (kA M0 sz) := by
  refine Met.ofW (cc := cX4_fork) (maxL := 7) (ret := (some .int)) (by decide) rfl ?_
  intro p e s m args below meth c s₁ B hml hv
  obtain ⟨rfl, hsz, hR, hE⟩ := hv
  have hx := B.exec
  have hb := B.bytes
  have hr := B.returns
  have hts := atoms_spec (ws := wsX4_fork) B.pre
  have hown : s.vm.findClass RX4 = some m.cls := findClass_of_methodNamed B.named
  have hlocks := B.notSynchronized
  subst hsz
  have hK := hE.1
  have hA : ∀ q, s.heap.size ≤ q → kA M0 s.heap.size q := kA.new
  have hS : va_S (kA M0 s.heap.size) s.heap s.heap [] := va_S.rf
  have hw1 := hts (.fieldLink RX4 7 "ForkedStampsModel" "state" "[I") (by decide +kernel)
  have b41 : ∀ (x2 : Int32) (M : k_M) (H : Heap) (locs : List Loc) (ls : Array Slot), wp_X4_fork_b41 G post x2 M → lv_has ls 7 [(2, .int x2)] → kR G M (kA M0 s.heap.size) H → va_S (kA M0 s.heap.size) s.heap H locs → W p l e (headSpec wsX4_fork ({ frames := 3, cells := 0, slots := 0, locals := 65 })).room s m ([.ref p0, .int p1] : List Value).toArray below meth c H locs 0 0 (MQ below (va_Qi post (kB G M0 s.heap.size) (kA M0 s.heap.size)) ([.ref p0, .int p1] : List Value).toArray s 0 0 (kA M0 s.heap.size)) (F0 m 41 ls []) := by
    intro x2 M H locs ls h hl hR hS
    refine lv_iload_n hx hb dX4_fork_41 rfl (lv_at hl 0 rfl) ?_
    refine lv_bipush (v := (-6 : Int32)) hx hb dX4_fork_42 (by decide) ?_
    obtain ⟨ha, hb2⟩ := h
    refine lv_icmp_ne (tgt := 52) hx hb dX4_fork_44 (by decide) (fun hc => ?_) (fun hc => ?_)
    · replace h := ha hc
      refine lv_bipush (v := (-5 : Int32)) hx hb dX4_fork_52 (by decide) ?_
      exact k_reti hx hb hr hlocks rfl hR hS h dX4_fork_54
    · replace h := hb2 hc
      refine lv_bipush (v := (-4 : Int32)) hx hb dX4_fork_47 (by decide) ?_
      refine lv_goto (tgt := 54) hx hb dX4_fork_49 (by decide) ?_
      exact k_reti hx hb hr hlocks rfl hR hS h dX4_fork_54
  have L96 : ∀ (n : Nat), ∀ (x0 : Nat) (x1 : Int32) (x2 : Int32) (x3 : Int32) (x4 : Int32) (x5 : Int32) (x6 : Int32) (M : k_M) (H : Heap) (locs : List Loc) (ls : Array Slot), wp_X4_fork_L96 G post n x0 x1 x2 x3 x4 x5 x6 M → lv_has ls 7 [(0, .ref x0), (1, .int x1), (2, .int x2), (3, .int x3), (4, .int x4), (5, .int x5), (6, .int x6)] → kR G M (kA M0 s.heap.size) H → va_S (kA M0 s.heap.size) s.heap H locs → W p l e (headSpec wsX4_fork ({ frames := 3, cells := 0, slots := 0, locals := 65 })).room s m ([.ref p0, .int p1] : List Value).toArray below meth c H locs 0 0 (MQ below (va_Qi post (kB G M0 s.heap.size) (kA M0 s.heap.size)) ([.ref p0, .int p1] : List Value).toArray s 0 0 (kA M0 s.heap.size)) (F0 m 96 ls []) := by
    intro n
    induction n with
    | zero =>
      intro  x0 x1 x2 x3 x4 x5 x6 M H locs ls h
      exact False.elim h
    | succ n ih =>
      intro  x0 x1 x2 x3 x4 x5 x6 M H locs ls h hl hR hS
      refine lv_iload hx hb dX4_fork_96 (lv_at hl 6 rfl) ?_
      refine lv_bipush (v := (16 : Int32)) hx hb dX4_fork_98 (by decide) ?_
      obtain ⟨ha, hb2⟩ := h
      refine lv_icmp_ge (tgt := 136) hx hb dX4_fork_100 (by decide) (fun hc => ?_) (fun hc => ?_)
      · replace h := ha hc
        refine lv_aload_n hx hb dX4_fork_136 rfl (lv_at hl 0 rfl) ?_
        obtain ⟨fs49, v50, hm51, hv52, h⟩ := h
        refine k_get (ci := 5) (C := RX4) (T := TX4) (N := 13) hx hb hts in_X4_fork_X4 hown hK hR hm51 rfl 0 (by decide) hw1 (fun _ h9 => h9) hv52 dX4_fork_137 ?_
        refine lv_iload_n hx hb dX4_fork_140 rfl (lv_at hl 1 rfl) ?_
        refine k_calli0 (va_runS (As := [.int x1]) (rest := [.ref v50]) ⟨hx, hb, hml, hown, hts⟩ (c_X4_helperAt l G _ _ _ x1 h) (va_cwS 1 hts gX4_fork_X4_helperAt rfl rfl rfl (by decide +kernel) ⟨Nat.le_of_ble_eq_true rfl, Nat.le_of_ble_eq_true rfl⟩) (k_preS hR hS hA hE) rfl rfl hl.1 rfl (lv_room (Nat.le_of_ble_eq_true rfl)) dX4_fork_141 ⟨Nat.zero_le _, Nat.zero_le _⟩) hR hS hA (fun r53 M54 H locs h hR hS => ?_)
        refine lv_iconst (v := (0 : Int32)) hx hb dX4_fork_144 (by decide) ?_
        refine lv_iadd hx hb dX4_fork_145 ?_
        refine lv_iload hx hb dX4_fork_146 (lv_at hl 4 rfl) ?_
        obtain ⟨n56, f57, hm59, hv60, h⟩ := h
        replace h := h _ rfl
        refine k_iast hx hb hK hR hS hm59 hv60 dX4_fork_148 (fun H locs hR hS => ?_)
        refine lv_aload_n hx hb dX4_fork_149 rfl (lv_at hl 0 rfl) ?_
        obtain ⟨fs61, v62, hm63, hv64, h⟩ := h
        refine k_get (ci := 5) (C := RX4) (T := TX4) (N := 13) hx hb hts in_X4_fork_X4 hown hK hR hm63 rfl 0 (by decide) hw1 (fun _ h9 => h9) hv64 dX4_fork_150 ?_
        refine lv_iload_n hx hb dX4_fork_153 rfl (lv_at hl 2 rfl) ?_
        refine k_calli0 (va_runS (As := [.int x2]) (rest := [.ref v62]) ⟨hx, hb, hml, hown, hts⟩ (c_X4_helperAt l G _ _ _ x2 h) (va_cwS 1 hts gX4_fork_X4_helperAt rfl rfl rfl (by decide +kernel) ⟨Nat.le_of_ble_eq_true rfl, Nat.le_of_ble_eq_true rfl⟩) (k_preS hR hS hA hE) rfl rfl hl.1 rfl (lv_room (Nat.le_of_ble_eq_true rfl)) dX4_fork_154 ⟨Nat.zero_le _, Nat.zero_le _⟩) hR hS hA (fun r65 M66 H locs h hR hS => ?_)
        refine lv_iconst (v := (0 : Int32)) hx hb dX4_fork_157 (by decide) ?_
        refine lv_iadd hx hb dX4_fork_158 ?_
        refine lv_iload_n hx hb dX4_fork_159 rfl (lv_at hl 3 rfl) ?_
        refine lv_iload hx hb dX4_fork_160 (lv_at hl 4 rfl) ?_
        refine lv_iconst (v := (-1 : Int32)) hx hb dX4_fork_162 (by decide) ?_
        refine lv_ixor hx hb dX4_fork_163 ?_
        refine lv_iand hx hb dX4_fork_164 ?_
        obtain ⟨n68, f69, hm71, hv72, h⟩ := h
        replace h := h _ rfl
        refine k_iast hx hb hK hR hS hm71 hv72 dX4_fork_165 (fun H locs hR hS => ?_)
        refine lv_aload_n hx hb dX4_fork_166 rfl (lv_at hl 0 rfl) ?_
        obtain ⟨fs73, v74, hm75, hv76, h⟩ := h
        refine k_get (ci := 5) (C := RX4) (T := TX4) (N := 13) hx hb hts in_X4_fork_X4 hown hK hR hm75 rfl 0 (by decide) hw1 (fun _ h9 => h9) hv76 dX4_fork_167 ?_
        refine lv_iconst (v := (0 : Int32)) hx hb dX4_fork_170 (by decide) ?_
        refine lv_dup2_11 hx hb dX4_fork_171 rfl rfl ?_
        obtain ⟨n77, f78, hm79, hv80, h⟩ := h
        refine k_iald hx hb hK hR hm79 hv80 dX4_fork_172 ?_
        refine lv_iconst (v := (1 : Int32)) hx hb dX4_fork_173 (by decide) ?_
        refine lv_iload_n hx hb dX4_fork_174 rfl (lv_at hl 2 rfl) ?_
        refine lv_ishl hx hb dX4_fork_175 ?_
        refine lv_ior hx hb dX4_fork_176 ?_
        obtain ⟨n81, f82, hm84, hv85, h⟩ := h
        replace h := h _ rfl
        refine k_iast hx hb hK hR hS hm84 hv85 dX4_fork_177 (fun H locs hR hS => ?_)
        refine lv_iload_n hx hb dX4_fork_178 rfl (lv_at hl 2 rfl) ?_
        exact k_reti hx hb hr hlocks rfl hR hS h dX4_fork_179
      · replace h := hb2 hc
        refine lv_iload_n hx hb dX4_fork_103 rfl (lv_at hl 3 rfl) ?_
        refine lv_iload hx hb dX4_fork_104 (lv_at hl 6 rfl) ?_
        refine lv_ishr hx hb dX4_fork_106 ?_
        refine lv_iconst (v := (1 : Int32)) hx hb dX4_fork_107 (by decide) ?_
        refine lv_iand hx hb dX4_fork_108 ?_
        refine lv_iconst (v := (1 : Int32)) hx hb dX4_fork_109 (by decide) ?_
        obtain ⟨ha, hb2⟩ := h
        refine lv_icmp_ne (tgt := 130) hx hb dX4_fork_110 (by decide) (fun hc => ?_) (fun hc => ?_)
        · replace h := ha hc
          refine lv_iinc (v := (x6 + (1 : Int32))) (lv' := [(6, .int (x6 + (1 : Int32))), (0, .ref x0), (1, .int x1), (2, .int x2), (3, .int x3), (4, .int x4), (5, .int x5)]) hx hb dX4_fork_130 hl (k := 6) rfl rfl (by decide) rfl (fun ls hl => ?_)
          refine lv_goto (tgt := 96) hx hb dX4_fork_133 (by decide) ?_
          exact ih _ _ _ _ _ _ _ _ _ _ _ h (lv_sub hl [1, 2, 3, 4, 5, 6, 0] rfl) hR hS
        · replace h := hb2 hc
          refine lv_iload hx hb dX4_fork_113 (lv_at hl 5 rfl) ?_
          obtain ⟨ha, hb2⟩ := h
          refine lv_if_le (tgt := 130) hx hb dX4_fork_115 (by decide) (fun hc => ?_) (fun hc => ?_)
          · replace h := ha hc
            refine lv_iinc (v := (x6 + (1 : Int32))) (lv' := [(6, .int (x6 + (1 : Int32))), (0, .ref x0), (1, .int x1), (2, .int x2), (3, .int x3), (4, .int x4), (5, .int x5)]) hx hb dX4_fork_130 hl (k := 6) rfl rfl (by decide) rfl (fun ls hl => ?_)
            refine lv_goto (tgt := 96) hx hb dX4_fork_133 (by decide) ?_
            exact ih _ _ _ _ _ _ _ _ _ _ _ h (lv_sub hl [1, 2, 3, 4, 5, 6, 0] rfl) hR hS
          · replace h := hb2 hc
            refine lv_iload hx hb dX4_fork_118 (lv_at hl 4 rfl) ?_
            refine lv_iconst (v := (1 : Int32)) hx hb dX4_fork_120 (by decide) ?_
            refine lv_iload hx hb dX4_fork_121 (lv_at hl 6 rfl) ?_
            refine lv_ishl hx hb dX4_fork_123 ?_
            refine lv_ior hx hb dX4_fork_124 ?_
            refine lv_istore (lv' := [(4, .int (x4 ||| ((1 : Int32) <<< (x6 &&& 31)))), (0, .ref x0), (1, .int x1), (2, .int x2), (3, .int x3), (5, .int x5), (6, .int x6)]) hx hb dX4_fork_125 hl (by decide) rfl (fun ls hl => ?_)
            refine lv_iinc (v := (x5 + (-1 : Int32))) (lv' := [(5, .int (x5 + (-1 : Int32))), (4, .int (x4 ||| ((1 : Int32) <<< (x6 &&& 31)))), (0, .ref x0), (1, .int x1), (2, .int x2), (3, .int x3), (6, .int x6)]) hx hb dX4_fork_127 hl (k := 5) rfl rfl (by decide) rfl (fun ls hl => ?_)
            refine lv_iinc (v := (x6 + (1 : Int32))) (lv' := [(6, .int (x6 + (1 : Int32))), (5, .int (x5 + (-1 : Int32))), (4, .int (x4 ||| ((1 : Int32) <<< (x6 &&& 31)))), (0, .ref x0), (1, .int x1), (2, .int x2), (3, .int x3)]) hx hb dX4_fork_130 hl (k := 6) rfl rfl (by decide) rfl (fun ls hl => ?_)
            refine lv_goto (tgt := 96) hx hb dX4_fork_133 (by decide) ?_
            exact ih _ _ _ _ _ _ _ _ _ _ _ h (lv_sub hl [3, 4, 5, 6, 2, 1, 0] rfl) hR hS
  have hl := lv_entry ([.ref p0, .int p1]) (n := 7) (Nat.le_of_ble_eq_true rfl)
  rw [lg_entry_eq]
  generalize (lg_sl ([.ref p0, .int p1]) ++ List.replicate (7 - (lg_sl ([.ref p0, .int p1])).length) Slot.unset).toArray = ls at hl ⊢
  have hl : lv_has ls 7 [(0, .ref p0), (1, .int p1)] := hl
  have hR0 := hR
  refine lv_aload_n hx hb dX4_fork_0 rfl (lv_at hl 0 rfl) ?_
  refine lv_iload_n hx hb dX4_fork_1 rfl (lv_at hl 1 rfl) ?_
  obtain ⟨fs4, hm3, h⟩ := h
  refine k_calli0 (va_runV (As := [.int p1]) (rest := []) ⟨hx, hb, hml, hown, hts⟩ (c_X4_isHelper l G _ _ _ p0 p1 h) (cwV 1 hts gX4_fork_X4_isHelper rfl rfl rfl (by decide +kernel) ⟨Nat.le_of_ble_eq_true rfl, Nat.le_of_ble_eq_true rfl⟩) (k_preV (q := (RX4, TX4, 13)) hm3 rfl hR hS hA hE) rfl rfl hl.1 rfl (lv_room (Nat.le_of_ble_eq_true rfl)) dX4_fork_2 ⟨Nat.zero_le _, Nat.zero_le _⟩) hR hS hA (fun r1 M2 H locs h hR hS => ?_)
  obtain ⟨ha, hb2⟩ := h
  refine lv_if_ne (tgt := 10) hx hb dX4_fork_5 (by decide) (fun hc => ?_) (fun hc => ?_)
  · replace h := ha hc
    refine lv_aload_n hx hb dX4_fork_10 rfl (lv_at hl 0 rfl) ?_
    obtain ⟨fs8, hm7, h⟩ := h
    refine k_calli0 (va_runV (As := []) (rest := []) ⟨hx, hb, hml, hown, hts⟩ (c_X4_freeNumber l G _ _ _ p0 h) (cwV 0 hts gX4_fork_X4_freeNumber rfl rfl rfl (by decide +kernel) ⟨Nat.le_of_ble_eq_true rfl, Nat.le_of_ble_eq_true rfl⟩) (k_preV (q := (RX4, TX4, 13)) hm7 rfl hR hS hA hE) rfl rfl hl.1 rfl (lv_room (Nat.le_of_ble_eq_true rfl)) dX4_fork_11 ⟨Nat.zero_le _, Nat.zero_le _⟩) hR hS hA (fun r5 M6 H locs h hR hS => ?_)
    refine lv_istore_n (lv' := [(2, .int r5), (0, .ref p0), (1, .int p1)]) hx hb dX4_fork_14 rfl hl (by decide) rfl (fun ls hl => ?_)
    refine lv_aload_n hx hb dX4_fork_15 rfl (lv_at hl 1 rfl) ?_
    obtain ⟨fs9, v10, hm11, hv12, h⟩ := h
    refine k_get (ci := 5) (C := RX4) (T := TX4) (N := 13) hx hb hts in_X4_fork_X4 hown hK hR hm11 rfl 0 (by decide) hw1 (fun _ h9 => h9) hv12 dX4_fork_16 ?_
    refine lv_iload_n hx hb dX4_fork_19 rfl (lv_at hl 2 rfl) ?_
    refine k_calli0 (va_runS (As := [.int p1]) (rest := [.ref v10]) ⟨hx, hb, hml, hown, hts⟩ (c_X4_helperAt l G _ _ _ p1 h) (va_cwS 1 hts gX4_fork_X4_helperAt rfl rfl rfl (by decide +kernel) ⟨Nat.le_of_ble_eq_true rfl, Nat.le_of_ble_eq_true rfl⟩) (k_preS hR hS hA hE) rfl rfl hl.1 rfl (lv_room (Nat.le_of_ble_eq_true rfl)) dX4_fork_20 ⟨Nat.zero_le _, Nat.zero_le _⟩) hR hS hA (fun r13 M14 H locs h hR hS => ?_)
    refine lv_iconst (v := (0 : Int32)) hx hb dX4_fork_23 (by decide) ?_
    refine lv_iadd hx hb dX4_fork_24 ?_
    obtain ⟨n16, f17, hm18, hv19, h⟩ := h
    refine k_iald hx hb hK hR hm18 hv19 dX4_fork_25 ?_
    refine lv_topi (fun y20 ey20 => ?_)
    replace h := h y20 ey20
    refine lv_istore_n (lv' := [(3, .int y20), (2, .int r5), (0, .ref p0), (1, .int p1)]) hx hb dX4_fork_26 rfl hl (by decide) rfl (fun ls hl => ?_)
    refine lv_iload_n hx hb dX4_fork_27 rfl (lv_at hl 1 rfl) ?_
    refine lv_bipush (v := (-6 : Int32)) hx hb dX4_fork_28 (by decide) ?_
    obtain ⟨ha, hb2⟩ := h
    refine lv_icmp_eq (tgt := 41) hx hb dX4_fork_30 (by decide) (fun hc => ?_) (fun hc => ?_)
    · replace h := ha hc
      exact b41 _ _ _ _ _ h (lv_sub hl [1] rfl) hR hS
    · replace h := hb2 hc
      refine lv_iload_n hx hb dX4_fork_33 rfl (lv_at hl 0 rfl) ?_
      refine k_calli0 (va_runS (As := [.int y20]) (rest := []) ⟨hx, hb, hml, hown, hts⟩ (c_X4_bits l G _ _ _ y20 h) (va_cwS 1 hts gX4_fork_X4_bits rfl rfl rfl (by decide +kernel) ⟨Nat.le_of_ble_eq_true rfl, Nat.le_of_ble_eq_true rfl⟩) (k_preS hR hS hA hE) rfl rfl hl.1 rfl (lv_room (Nat.le_of_ble_eq_true rfl)) dX4_fork_34 ⟨Nat.zero_le _, Nat.zero_le _⟩) hR hS hA (fun r21 M22 H locs h hR hS => ?_)
      refine lv_iconst (v := (1 : Int32)) hx hb dX4_fork_37 (by decide) ?_
      obtain ⟨ha, hb2⟩ := h
      refine lv_icmp_ne (tgt := 55) hx hb dX4_fork_38 (by decide) (fun hc => ?_) (fun hc => ?_)
      · replace h := ha hc
        refine lv_aload_n hx hb dX4_fork_55 rfl (lv_at hl 2 rfl) ?_
        obtain ⟨fs27, hm26, h⟩ := h
        refine k_callv0 (va_runV (As := []) (rest := []) ⟨hx, hb, hml, hown, hts⟩ (c_X4_record l G _ _ _ p0 h) (cwV 0 hts gX4_fork_X4_record rfl rfl rfl (by decide +kernel) ⟨Nat.le_of_ble_eq_true rfl, Nat.le_of_ble_eq_true rfl⟩) (k_preV (q := (RX4, TX4, 13)) hm26 rfl hR hS hA hE) rfl rfl hl.1 rfl (lv_room (Nat.le_of_ble_eq_true rfl)) dX4_fork_56 ⟨Nat.zero_le _, Nat.zero_le _⟩) hR hS hA (fun M25 H locs h hR hS => ?_)
        refine lv_aload_n hx hb dX4_fork_59 rfl (lv_at hl 2 rfl) ?_
        obtain ⟨fs28, v29, hm30, hv31, h⟩ := h
        refine k_get (ci := 5) (C := RX4) (T := TX4) (N := 13) hx hb hts in_X4_fork_X4 hown hK hR hm30 rfl 0 (by decide) hw1 (fun _ h9 => h9) hv31 dX4_fork_60 ?_
        refine lv_iload_n hx hb dX4_fork_63 rfl (lv_at hl 3 rfl) ?_
        refine k_calli0 (va_runS (As := [.int p1]) (rest := [.ref v29]) ⟨hx, hb, hml, hown, hts⟩ (c_X4_helperAt l G _ _ _ p1 h) (va_cwS 1 hts gX4_fork_X4_helperAt rfl rfl rfl (by decide +kernel) ⟨Nat.le_of_ble_eq_true rfl, Nat.le_of_ble_eq_true rfl⟩) (k_preS hR hS hA hE) rfl rfl hl.1 rfl (lv_room (Nat.le_of_ble_eq_true rfl)) dX4_fork_64 ⟨Nat.zero_le _, Nat.zero_le _⟩) hR hS hA (fun r32 M33 H locs h hR hS => ?_)
        refine lv_aload_n hx hb dX4_fork_67 rfl (lv_at hl 2 rfl) ?_
        obtain ⟨fs35, v36, hm37, hv38, h⟩ := h
        refine k_get (ci := 5) (C := RX4) (T := TX4) (N := 13) hx hb hts in_X4_fork_X4 hown hK hR hm37 rfl 0 (by decide) hw1 (fun _ h9 => h9) hv38 dX4_fork_68 ?_
        refine lv_iload_n hx hb dX4_fork_71 rfl (lv_at hl 1 rfl) ?_
        refine k_calli0 (va_runS (As := [.int r5]) (rest := [.ref v36, .int r32, .ref v29]) ⟨hx, hb, hml, hown, hts⟩ (c_X4_helperAt l G _ _ _ r5 h) (va_cwS 1 hts gX4_fork_X4_helperAt rfl rfl rfl (by decide +kernel) ⟨Nat.le_of_ble_eq_true rfl, Nat.le_of_ble_eq_true rfl⟩) (k_preS hR hS hA hE) rfl rfl hl.1 rfl (lv_room (Nat.le_of_ble_eq_true rfl)) dX4_fork_72 ⟨Nat.zero_le _, Nat.zero_le _⟩) hR hS hA (fun r39 M40 H locs h hR hS => ?_)
        refine lv_bipush (v := (21 : Int32)) hx hb dX4_fork_75 (by decide) ?_
        refine k_callv0 (va_runS (As := [.ref v29, .int r32, .ref v36, .int r39, .int (21 : Int32)]) (rest := []) ⟨hx, hb, hml, hown, hts⟩ (c_X4_moves l G _ _ _ v29 r32 v36 r39 (21 : Int32) h) (va_cwS 5 hts gX4_fork_X4_moves rfl rfl rfl (by decide +kernel) ⟨Nat.le_of_ble_eq_true rfl, Nat.le_of_ble_eq_true rfl⟩) (k_preS hR hS hA hE) rfl rfl hl.1 rfl (lv_room (Nat.le_of_ble_eq_true rfl)) dX4_fork_77 ⟨Nat.zero_le _, Nat.zero_le _⟩) hR hS hA (fun M43 H locs h hR hS => ?_)
        refine lv_iconst (v := (0 : Int32)) hx hb dX4_fork_80 (by decide) ?_
        refine lv_istore (lv' := [(4, .int (0 : Int32)), (3, .int y20), (2, .int r5), (0, .ref p0), (1, .int p1)]) hx hb dX4_fork_81 hl (by decide) rfl (fun ls hl => ?_)
        refine lv_iload_n hx hb dX4_fork_83 rfl (lv_at hl 1 rfl) ?_
        refine k_calli0 (va_runS (As := [.int y20]) (rest := []) ⟨hx, hb, hml, hown, hts⟩ (c_X4_bits l G _ _ _ y20 h) (va_cwS 1 hts gX4_fork_X4_bits rfl rfl rfl (by decide +kernel) ⟨Nat.le_of_ble_eq_true rfl, Nat.le_of_ble_eq_true rfl⟩) (k_preS hR hS hA hE) rfl rfl hl.1 rfl (lv_room (Nat.le_of_ble_eq_true rfl)) dX4_fork_84 ⟨Nat.zero_le _, Nat.zero_le _⟩) hR hS hA (fun r45 M46 H locs h hR hS => ?_)
        refine lv_iconst (v := (1 : Int32)) hx hb dX4_fork_87 (by decide) ?_
        refine lv_iadd hx hb dX4_fork_88 ?_
        refine lv_iconst (v := (2 : Int32)) hx hb dX4_fork_89 (by decide) ?_
        refine lv_idiv hx hb dX4_fork_90 (by decide) ?_
        refine lv_istore (lv' := [(5, .int ((r45 + (1 : Int32)) / (2 : Int32))), (4, .int (0 : Int32)), (3, .int y20), (2, .int r5), (0, .ref p0), (1, .int p1)]) hx hb dX4_fork_91 hl (by decide) rfl (fun ls hl => ?_)
        refine lv_iconst (v := (0 : Int32)) hx hb dX4_fork_93 (by decide) ?_
        refine lv_istore (lv' := [(6, .int (0 : Int32)), (5, .int ((r45 + (1 : Int32)) / (2 : Int32))), (4, .int (0 : Int32)), (3, .int y20), (2, .int r5), (0, .ref p0), (1, .int p1)]) hx hb dX4_fork_94 hl (by decide) rfl (fun ls hl => ?_)
        obtain ⟨k48, h⟩ := h
        exact L96 k48 _ _ _ _ _ _ _ _ _ _ _ h (lv_sub hl [5, 6, 4, 3, 2, 1, 0] rfl) hR hS
      · replace h := hb2 hc
        exact b41 _ _ _ _ _ h (lv_sub hl [1] rfl) hR hS
  · replace h := hb2 hc
    refine lv_iconst (v := (-1 : Int32)) hx hb dX4_fork_8 (by decide) ?_
    exact k_reti hx hb hr hlocks rfl hR hS h dX4_fork_9

def wp_X4_gather_L76 (G : k_G) (post : Int32 → k_M → Prop) : Nat → Nat → Int32 → Int32 → Int32 → k_M → Prop
  | 0 => fun _ _ _ _ _ => False
  | n + 1 => fun x0 x1 x2 x3 M =>
  (((21 : Int32) ≤ x3 →
      (∃ fs58 v59, M x0 = some (kO 5 fs58) ∧ fs58[0]? = some (.ref v59) ∧
        (∃ n62 f63, M v59 = some (kI G n62 f63) ∧ vp_in (0 : Int32) n62 ∧
        (∃ n66 f67, M v59 = some (kI G n66 f67) ∧ vp_in (0 : Int32) n66 ∧ ∀ M68 : k_M, M68 = va_up M v59 (some (kI G n66 (upd f67 ((0 : Int32)).toNatClampNeg ((f63 ((0 : Int32)).toNatClampNeg) &&& (((1 : Int32) <<< (x1 &&& 31)) ^^^ (-1 : Int32)))))) →
        (∃ fs71 v72, M68 x0 = some (kO 5 fs71) ∧ fs71[0]? = some (.ref v72) ∧
        wp_X4_helperAt G (fun r75 M76 =>
        (∃ n78 f79, M76 v72 = some (kI G n78 f79) ∧ vp_in (r75 + (0 : Int32)) n78 ∧
        wp_X4_bits G (fun r82 M83 =>
        post r82 M83) (f79 ((r75 + (0 : Int32))).toNatClampNeg) M76)) x2 M68))))) ∧
      (¬ (21 : Int32) ≤ x3 →
      (∃ fs85 v86, M x0 = some (kO 5 fs85) ∧ fs85[0]? = some (.ref v86) ∧
        wp_X4_helperAt G (fun r89 M90 =>
        (∃ n92 f93, M90 v86 = some (kI G n92 f93) ∧ vp_in (r89 + x3) n92 ∧ ∀ M94 : k_M, M94 = va_up M90 v86 (some (kI G n92 (upd f93 ((r89 + x3)).toNatClampNeg (0 : Int32)))) →
        (wp_X4_gather_L76 G post n) x0 x1 x2 (x3 + (1 : Int32)) M94)) x1 M)))
def wp_X4_gather (G : k_G) (post : Int32 → k_M → Prop) (p0 : Nat) (p1 : Int32) (p2 : Int32) (M0 : k_M) : Prop :=
  (∃ fs4, M0 p0 = some (kO 5 fs4) ∧ wp_X4_isHelper G (fun r1 M2 =>
  ((r1 = 0 →
  post (-1 : Int32) M2) ∧
  (¬ r1 = 0 →
  (∃ fs8, M2 p0 = some (kO 5 fs8) ∧ wp_X4_isHelper G (fun r5 M6 =>
    ((¬ r5 = 0 →
    ((¬ p1 = p2 →
      (∃ fs12, M6 p0 = some (kO 5 fs12) ∧ wp_X4_record G (fun M10 =>
        (∃ fs13 v14, M10 p0 = some (kO 5 fs13) ∧ fs13[0]? = some (.ref v14) ∧
        wp_X4_helperAt G (fun r17 M18 =>
        (∃ fs20 v21, M18 p0 = some (kO 5 fs20) ∧ fs20[0]? = some (.ref v21) ∧
        wp_X4_helperAt G (fun r24 M25 =>
        wp_X4_takeOver G (fun M28 =>
        (∃ fs30 v31, M28 p0 = some (kO 5 fs30) ∧ fs30[0]? = some (.ref v31) ∧
        wp_X4_helperAt G (fun r34 M35 =>
        (∃ n37 f38, M35 v31 = some (kI G n37 f38) ∧ vp_in (r34 + (0 : Int32)) n37 ∧
        (∃ fs41 v42, M35 p0 = some (kO 5 fs41) ∧ fs41[0]? = some (.ref v42) ∧
        wp_X4_helperAt G (fun r45 M46 =>
        (∃ n48 f49, M46 v42 = some (kI G n48 f49) ∧ vp_in (r45 + (0 : Int32)) n48 ∧
        (∃ n52 f53, M46 v31 = some (kI G n52 f53) ∧ vp_in (r34 + (0 : Int32)) n52 ∧ ∀ M54 : k_M, M54 = va_up M46 v31 (some (kI G n52 (upd f53 ((r34 + (0 : Int32))).toNatClampNeg ((f38 ((r34 + (0 : Int32))).toNatClampNeg) ||| (f49 ((r45 + (0 : Int32))).toNatClampNeg))))) →
        ∃ k57, wp_X4_gather_L76 G post k57 p0 p1 p2 (0 : Int32) M54))) p1 M35))) p2 M28)) v14 r17 v21 r24 M25) p1 M18)) p2 M10)) p0 M6)) ∧
      (p1 = p2 →
      post (-2 : Int32) M6))) ∧
    (r5 = 0 →
    post (-1 : Int32) M6))) p0 p2 M2)))) p0 p1 M0)
theorem in_X4_gather_X4 : ∀ w ∈ wsX40, w ∈ wsX4_gather := by decide +kernel
set_option maxHeartbeats 4000000 in
set_option maxRecDepth 100000 in
theorem c_X4_gather (l : Launch) (G : k_G) (M0 : k_M) (sz : Nat) (post : Int32 → k_M → Prop) (p0 : Nat) (p1 : Int32) (p2 : Int32) (h : wp_X4_gather G post p0 p1 p2 M0) : Met l yX4_gather wsX4_gather ({ frames := 2, cells := 0, slots := 0, locals := 46 }) (va_Pc [.ref p0, .int p1, .int p2] (kPre G M0 sz)) (va_Qi post (kB G M0 sz) (kA M0 sz)) 0 0 (kA M0 sz) := by
  refine Met.ofW (cc := cX4_gather) (maxL := 4) (ret := (some .int)) (by decide) rfl ?_
  intro p e s m args below meth c s₁ B hml hv
  obtain ⟨rfl, hsz, hR, hE⟩ := hv
  have hx := B.exec
  have hb := B.bytes
  have hr := B.returns
  have hts := atoms_spec (ws := wsX4_gather) B.pre
  have hown : s.vm.findClass RX4 = some m.cls := findClass_of_methodNamed B.named
  have hlocks := B.notSynchronized
  subst hsz
  have hK := hE.1
  have hA : ∀ q, s.heap.size ≤ q → kA M0 s.heap.size q := kA.new
  have hS : va_S (kA M0 s.heap.size) s.heap s.heap [] := va_S.rf
  have hw1 := hts (.fieldLink RX4 7 "ForkedStampsModel" "state" "[I") (by decide +kernel)
  have L76 : ∀ (n : Nat), ∀ (x0 : Nat) (x1 : Int32) (x2 : Int32) (x3 : Int32) (M : k_M) (H : Heap) (locs : List Loc) (ls : Array Slot), wp_X4_gather_L76 G post n x0 x1 x2 x3 M → lv_has ls 4 [(0, .ref x0), (1, .int x1), (2, .int x2), (3, .int x3)] → kR G M (kA M0 s.heap.size) H → va_S (kA M0 s.heap.size) s.heap H locs → W p l e (headSpec wsX4_gather ({ frames := 2, cells := 0, slots := 0, locals := 46 })).room s m ([.ref p0, .int p1, .int p2] : List Value).toArray below meth c H locs 0 0 (MQ below (va_Qi post (kB G M0 s.heap.size) (kA M0 s.heap.size)) ([.ref p0, .int p1, .int p2] : List Value).toArray s 0 0 (kA M0 s.heap.size)) (F0 m 76 ls []) := by
    intro n
    induction n with
    | zero =>
      intro  x0 x1 x2 x3 M H locs ls h
      exact False.elim h
    | succ n ih =>
      intro  x0 x1 x2 x3 M H locs ls h hl hR hS
      refine lv_iload_n hx hb dX4_gather_76 rfl (lv_at hl 3 rfl) ?_
      refine lv_bipush (v := (21 : Int32)) hx hb dX4_gather_77 (by decide) ?_
      obtain ⟨ha, hb2⟩ := h
      refine lv_icmp_ge (tgt := 100) hx hb dX4_gather_79 (by decide) (fun hc => ?_) (fun hc => ?_)
      · replace h := ha hc
        refine lv_aload_n hx hb dX4_gather_100 rfl (lv_at hl 0 rfl) ?_
        obtain ⟨fs58, v59, hm60, hv61, h⟩ := h
        refine k_get (ci := 5) (C := RX4) (T := TX4) (N := 13) hx hb hts in_X4_gather_X4 hown hK hR hm60 rfl 0 (by decide) hw1 (fun _ h9 => h9) hv61 dX4_gather_101 ?_
        refine lv_iconst (v := (0 : Int32)) hx hb dX4_gather_104 (by decide) ?_
        refine lv_dup2_11 hx hb dX4_gather_105 rfl rfl ?_
        obtain ⟨n62, f63, hm64, hv65, h⟩ := h
        refine k_iald hx hb hK hR hm64 hv65 dX4_gather_106 ?_
        refine lv_iconst (v := (1 : Int32)) hx hb dX4_gather_107 (by decide) ?_
        refine lv_iload_n hx hb dX4_gather_108 rfl (lv_at hl 1 rfl) ?_
        refine lv_ishl hx hb dX4_gather_109 ?_
        refine lv_iconst (v := (-1 : Int32)) hx hb dX4_gather_110 (by decide) ?_
        refine lv_ixor hx hb dX4_gather_111 ?_
        refine lv_iand hx hb dX4_gather_112 ?_
        obtain ⟨n66, f67, hm69, hv70, h⟩ := h
        replace h := h _ rfl
        refine k_iast hx hb hK hR hS hm69 hv70 dX4_gather_113 (fun H locs hR hS => ?_)
        refine lv_aload_n hx hb dX4_gather_114 rfl (lv_at hl 0 rfl) ?_
        obtain ⟨fs71, v72, hm73, hv74, h⟩ := h
        refine k_get (ci := 5) (C := RX4) (T := TX4) (N := 13) hx hb hts in_X4_gather_X4 hown hK hR hm73 rfl 0 (by decide) hw1 (fun _ h9 => h9) hv74 dX4_gather_115 ?_
        refine lv_iload_n hx hb dX4_gather_118 rfl (lv_at hl 2 rfl) ?_
        refine k_calli0 (va_runS (As := [.int x2]) (rest := [.ref v72]) ⟨hx, hb, hml, hown, hts⟩ (c_X4_helperAt l G _ _ _ x2 h) (va_cwS 1 hts gX4_gather_X4_helperAt rfl rfl rfl (by decide +kernel) ⟨Nat.le_of_ble_eq_true rfl, Nat.le_of_ble_eq_true rfl⟩) (k_preS hR hS hA hE) rfl rfl hl.1 rfl (lv_room (Nat.le_of_ble_eq_true rfl)) dX4_gather_119 ⟨Nat.zero_le _, Nat.zero_le _⟩) hR hS hA (fun r75 M76 H locs h hR hS => ?_)
        refine lv_iconst (v := (0 : Int32)) hx hb dX4_gather_122 (by decide) ?_
        refine lv_iadd hx hb dX4_gather_123 ?_
        obtain ⟨n78, f79, hm80, hv81, h⟩ := h
        refine k_iald hx hb hK hR hm80 hv81 dX4_gather_124 ?_
        refine k_calli0 (va_runS (As := [.int (f79 ((r75 + (0 : Int32))).toNatClampNeg)]) (rest := []) ⟨hx, hb, hml, hown, hts⟩ (c_X4_bits l G _ _ _ (f79 ((r75 + (0 : Int32))).toNatClampNeg) h) (va_cwS 1 hts gX4_gather_X4_bits rfl rfl rfl (by decide +kernel) ⟨Nat.le_of_ble_eq_true rfl, Nat.le_of_ble_eq_true rfl⟩) (k_preS hR hS hA hE) rfl rfl hl.1 rfl (lv_room (Nat.le_of_ble_eq_true rfl)) dX4_gather_125 ⟨Nat.zero_le _, Nat.zero_le _⟩) hR hS hA (fun r82 M83 H locs h hR hS => ?_)
        exact k_reti hx hb hr hlocks rfl hR hS h dX4_gather_128
      · replace h := hb2 hc
        refine lv_aload_n hx hb dX4_gather_82 rfl (lv_at hl 0 rfl) ?_
        obtain ⟨fs85, v86, hm87, hv88, h⟩ := h
        refine k_get (ci := 5) (C := RX4) (T := TX4) (N := 13) hx hb hts in_X4_gather_X4 hown hK hR hm87 rfl 0 (by decide) hw1 (fun _ h9 => h9) hv88 dX4_gather_83 ?_
        refine lv_iload_n hx hb dX4_gather_86 rfl (lv_at hl 1 rfl) ?_
        refine k_calli0 (va_runS (As := [.int x1]) (rest := [.ref v86]) ⟨hx, hb, hml, hown, hts⟩ (c_X4_helperAt l G _ _ _ x1 h) (va_cwS 1 hts gX4_gather_X4_helperAt rfl rfl rfl (by decide +kernel) ⟨Nat.le_of_ble_eq_true rfl, Nat.le_of_ble_eq_true rfl⟩) (k_preS hR hS hA hE) rfl rfl hl.1 rfl (lv_room (Nat.le_of_ble_eq_true rfl)) dX4_gather_87 ⟨Nat.zero_le _, Nat.zero_le _⟩) hR hS hA (fun r89 M90 H locs h hR hS => ?_)
        refine lv_iload_n hx hb dX4_gather_90 rfl (lv_at hl 3 rfl) ?_
        refine lv_iadd hx hb dX4_gather_91 ?_
        refine lv_iconst (v := (0 : Int32)) hx hb dX4_gather_92 (by decide) ?_
        obtain ⟨n92, f93, hm95, hv96, h⟩ := h
        replace h := h _ rfl
        refine k_iast hx hb hK hR hS hm95 hv96 dX4_gather_93 (fun H locs hR hS => ?_)
        refine lv_iinc (v := (x3 + (1 : Int32))) (lv' := [(3, .int (x3 + (1 : Int32))), (0, .ref x0), (1, .int x1), (2, .int x2)]) hx hb dX4_gather_94 hl (k := 3) rfl rfl (by decide) rfl (fun ls hl => ?_)
        refine lv_goto (tgt := 76) hx hb dX4_gather_97 (by decide) ?_
        exact ih _ _ _ _ _ _ _ _ h (lv_sub hl [1, 2, 3, 0] rfl) hR hS
  have hl := lv_entry ([.ref p0, .int p1, .int p2]) (n := 4) (Nat.le_of_ble_eq_true rfl)
  rw [lg_entry_eq]
  generalize (lg_sl ([.ref p0, .int p1, .int p2]) ++ List.replicate (4 - (lg_sl ([.ref p0, .int p1, .int p2])).length) Slot.unset).toArray = ls at hl ⊢
  have hl : lv_has ls 4 [(0, .ref p0), (1, .int p1), (2, .int p2)] := hl
  have hR0 := hR
  refine lv_aload_n hx hb dX4_gather_0 rfl (lv_at hl 0 rfl) ?_
  refine lv_iload_n hx hb dX4_gather_1 rfl (lv_at hl 1 rfl) ?_
  obtain ⟨fs4, hm3, h⟩ := h
  refine k_calli0 (va_runV (As := [.int p1]) (rest := []) ⟨hx, hb, hml, hown, hts⟩ (c_X4_isHelper l G _ _ _ p0 p1 h) (cwV 1 hts gX4_gather_X4_isHelper rfl rfl rfl (by decide +kernel) ⟨Nat.le_of_ble_eq_true rfl, Nat.le_of_ble_eq_true rfl⟩) (k_preV (q := (RX4, TX4, 13)) hm3 rfl hR hS hA hE) rfl rfl hl.1 rfl (lv_room (Nat.le_of_ble_eq_true rfl)) dX4_gather_2 ⟨Nat.zero_le _, Nat.zero_le _⟩) hR hS hA (fun r1 M2 H locs h hR hS => ?_)
  obtain ⟨ha, hb2⟩ := h
  refine lv_if_eq (tgt := 16) hx hb dX4_gather_5 (by decide) (fun hc => ?_) (fun hc => ?_)
  · replace h := ha hc
    refine lv_iconst (v := (-1 : Int32)) hx hb dX4_gather_16 (by decide) ?_
    exact k_reti hx hb hr hlocks rfl hR hS h dX4_gather_17
  · replace h := hb2 hc
    refine lv_aload_n hx hb dX4_gather_8 rfl (lv_at hl 0 rfl) ?_
    refine lv_iload_n hx hb dX4_gather_9 rfl (lv_at hl 2 rfl) ?_
    obtain ⟨fs8, hm7, h⟩ := h
    refine k_calli0 (va_runV (As := [.int p2]) (rest := []) ⟨hx, hb, hml, hown, hts⟩ (c_X4_isHelper l G _ _ _ p0 p2 h) (cwV 1 hts gX4_gather_X4_isHelper rfl rfl rfl (by decide +kernel) ⟨Nat.le_of_ble_eq_true rfl, Nat.le_of_ble_eq_true rfl⟩) (k_preV (q := (RX4, TX4, 13)) hm7 rfl hR hS hA hE) rfl rfl hl.1 rfl (lv_room (Nat.le_of_ble_eq_true rfl)) dX4_gather_10 ⟨Nat.zero_le _, Nat.zero_le _⟩) hR hS hA (fun r5 M6 H locs h hR hS => ?_)
    obtain ⟨ha, hb2⟩ := h
    refine lv_if_ne (tgt := 18) hx hb dX4_gather_13 (by decide) (fun hc => ?_) (fun hc => ?_)
    · replace h := ha hc
      refine lv_iload_n hx hb dX4_gather_18 rfl (lv_at hl 1 rfl) ?_
      refine lv_iload_n hx hb dX4_gather_19 rfl (lv_at hl 2 rfl) ?_
      obtain ⟨ha, hb2⟩ := h
      refine lv_icmp_ne (tgt := 26) hx hb dX4_gather_20 (by decide) (fun hc => ?_) (fun hc => ?_)
      · replace h := ha hc
        refine lv_aload_n hx hb dX4_gather_26 rfl (lv_at hl 0 rfl) ?_
        obtain ⟨fs12, hm11, h⟩ := h
        refine k_callv0 (va_runV (As := []) (rest := []) ⟨hx, hb, hml, hown, hts⟩ (c_X4_record l G _ _ _ p0 h) (cwV 0 hts gX4_gather_X4_record rfl rfl rfl (by decide +kernel) ⟨Nat.le_of_ble_eq_true rfl, Nat.le_of_ble_eq_true rfl⟩) (k_preV (q := (RX4, TX4, 13)) hm11 rfl hR hS hA hE) rfl rfl hl.1 rfl (lv_room (Nat.le_of_ble_eq_true rfl)) dX4_gather_27 ⟨Nat.zero_le _, Nat.zero_le _⟩) hR hS hA (fun M10 H locs h hR hS => ?_)
        refine lv_aload_n hx hb dX4_gather_30 rfl (lv_at hl 0 rfl) ?_
        obtain ⟨fs13, v14, hm15, hv16, h⟩ := h
        refine k_get (ci := 5) (C := RX4) (T := TX4) (N := 13) hx hb hts in_X4_gather_X4 hown hK hR hm15 rfl 0 (by decide) hw1 (fun _ h9 => h9) hv16 dX4_gather_31 ?_
        refine lv_iload_n hx hb dX4_gather_34 rfl (lv_at hl 2 rfl) ?_
        refine k_calli0 (va_runS (As := [.int p2]) (rest := [.ref v14]) ⟨hx, hb, hml, hown, hts⟩ (c_X4_helperAt l G _ _ _ p2 h) (va_cwS 1 hts gX4_gather_X4_helperAt rfl rfl rfl (by decide +kernel) ⟨Nat.le_of_ble_eq_true rfl, Nat.le_of_ble_eq_true rfl⟩) (k_preS hR hS hA hE) rfl rfl hl.1 rfl (lv_room (Nat.le_of_ble_eq_true rfl)) dX4_gather_35 ⟨Nat.zero_le _, Nat.zero_le _⟩) hR hS hA (fun r17 M18 H locs h hR hS => ?_)
        refine lv_aload_n hx hb dX4_gather_38 rfl (lv_at hl 0 rfl) ?_
        obtain ⟨fs20, v21, hm22, hv23, h⟩ := h
        refine k_get (ci := 5) (C := RX4) (T := TX4) (N := 13) hx hb hts in_X4_gather_X4 hown hK hR hm22 rfl 0 (by decide) hw1 (fun _ h9 => h9) hv23 dX4_gather_39 ?_
        refine lv_iload_n hx hb dX4_gather_42 rfl (lv_at hl 1 rfl) ?_
        refine k_calli0 (va_runS (As := [.int p1]) (rest := [.ref v21, .int r17, .ref v14]) ⟨hx, hb, hml, hown, hts⟩ (c_X4_helperAt l G _ _ _ p1 h) (va_cwS 1 hts gX4_gather_X4_helperAt rfl rfl rfl (by decide +kernel) ⟨Nat.le_of_ble_eq_true rfl, Nat.le_of_ble_eq_true rfl⟩) (k_preS hR hS hA hE) rfl rfl hl.1 rfl (lv_room (Nat.le_of_ble_eq_true rfl)) dX4_gather_43 ⟨Nat.zero_le _, Nat.zero_le _⟩) hR hS hA (fun r24 M25 H locs h hR hS => ?_)
        refine k_callv0 (va_runS (As := [.ref v14, .int r17, .ref v21, .int r24]) (rest := []) ⟨hx, hb, hml, hown, hts⟩ (c_X4_takeOver l G _ _ _ v14 r17 v21 r24 h) (va_cwS 4 hts gX4_gather_X4_takeOver rfl rfl rfl (by decide +kernel) ⟨Nat.le_of_ble_eq_true rfl, Nat.le_of_ble_eq_true rfl⟩) (k_preS hR hS hA hE) rfl rfl hl.1 rfl (lv_room (Nat.le_of_ble_eq_true rfl)) dX4_gather_46 ⟨Nat.zero_le _, Nat.zero_le _⟩) hR hS hA (fun M28 H locs h hR hS => ?_)
        refine lv_aload_n hx hb dX4_gather_49 rfl (lv_at hl 0 rfl) ?_
        obtain ⟨fs30, v31, hm32, hv33, h⟩ := h
        refine k_get (ci := 5) (C := RX4) (T := TX4) (N := 13) hx hb hts in_X4_gather_X4 hown hK hR hm32 rfl 0 (by decide) hw1 (fun _ h9 => h9) hv33 dX4_gather_50 ?_
        refine lv_iload_n hx hb dX4_gather_53 rfl (lv_at hl 2 rfl) ?_
        refine k_calli0 (va_runS (As := [.int p2]) (rest := [.ref v31]) ⟨hx, hb, hml, hown, hts⟩ (c_X4_helperAt l G _ _ _ p2 h) (va_cwS 1 hts gX4_gather_X4_helperAt rfl rfl rfl (by decide +kernel) ⟨Nat.le_of_ble_eq_true rfl, Nat.le_of_ble_eq_true rfl⟩) (k_preS hR hS hA hE) rfl rfl hl.1 rfl (lv_room (Nat.le_of_ble_eq_true rfl)) dX4_gather_54 ⟨Nat.zero_le _, Nat.zero_le _⟩) hR hS hA (fun r34 M35 H locs h hR hS => ?_)
        refine lv_iconst (v := (0 : Int32)) hx hb dX4_gather_57 (by decide) ?_
        refine lv_iadd hx hb dX4_gather_58 ?_
        refine lv_dup2_11 hx hb dX4_gather_59 rfl rfl ?_
        obtain ⟨n37, f38, hm39, hv40, h⟩ := h
        refine k_iald hx hb hK hR hm39 hv40 dX4_gather_60 ?_
        refine lv_aload_n hx hb dX4_gather_61 rfl (lv_at hl 0 rfl) ?_
        obtain ⟨fs41, v42, hm43, hv44, h⟩ := h
        refine k_get (ci := 5) (C := RX4) (T := TX4) (N := 13) hx hb hts in_X4_gather_X4 hown hK hR hm43 rfl 0 (by decide) hw1 (fun _ h9 => h9) hv44 dX4_gather_62 ?_
        refine lv_iload_n hx hb dX4_gather_65 rfl (lv_at hl 1 rfl) ?_
        refine k_calli0 (va_runS (As := [.int p1]) (rest := [.ref v42, .int (f38 ((r34 + (0 : Int32))).toNatClampNeg), .int (r34 + (0 : Int32)), .ref v31]) ⟨hx, hb, hml, hown, hts⟩ (c_X4_helperAt l G _ _ _ p1 h) (va_cwS 1 hts gX4_gather_X4_helperAt rfl rfl rfl (by decide +kernel) ⟨Nat.le_of_ble_eq_true rfl, Nat.le_of_ble_eq_true rfl⟩) (k_preS hR hS hA hE) rfl rfl hl.1 rfl (lv_room (Nat.le_of_ble_eq_true rfl)) dX4_gather_66 ⟨Nat.zero_le _, Nat.zero_le _⟩) hR hS hA (fun r45 M46 H locs h hR hS => ?_)
        refine lv_iconst (v := (0 : Int32)) hx hb dX4_gather_69 (by decide) ?_
        refine lv_iadd hx hb dX4_gather_70 ?_
        obtain ⟨n48, f49, hm50, hv51, h⟩ := h
        refine k_iald hx hb hK hR hm50 hv51 dX4_gather_71 ?_
        refine lv_ior hx hb dX4_gather_72 ?_
        obtain ⟨n52, f53, hm55, hv56, h⟩ := h
        replace h := h _ rfl
        refine k_iast hx hb hK hR hS hm55 hv56 dX4_gather_73 (fun H locs hR hS => ?_)
        refine lv_iconst (v := (0 : Int32)) hx hb dX4_gather_74 (by decide) ?_
        refine lv_istore_n (lv' := [(3, .int (0 : Int32)), (0, .ref p0), (1, .int p1), (2, .int p2)]) hx hb dX4_gather_75 rfl hl (by decide) rfl (fun ls hl => ?_)
        obtain ⟨k57, h⟩ := h
        exact L76 k57 _ _ _ _ _ _ _ _ h (lv_sub hl [1, 2, 3, 0] rfl) hR hS
      · replace h := hb2 hc
        refine lv_bipush (v := (-2 : Int32)) hx hb dX4_gather_23 (by decide) ?_
        exact k_reti hx hb hr hlocks rfl hR hS h dX4_gather_25
    · replace h := hb2 hc
      refine lv_iconst (v := (-1 : Int32)) hx hb dX4_gather_16 (by decide) ?_
      exact k_reti hx hb hr hlocks rfl hR hS h dX4_gather_17

def wp_X4_learns (G : k_G) (post : k_M → Prop) (p0 : Nat) (p1 : Int32) (p2 : Int32) (M0 : k_M) : Prop :=
  (∃ n1 f2, M0 p0 = some (kI G n1 f2) ∧ vp_in ((p1 + (17 : Int32)) + (p2 / (30 : Int32))) n1 ∧
  (∃ n5 f6, M0 p0 = some (kI G n5 f6) ∧ vp_in ((p1 + (17 : Int32)) + (p2 / (30 : Int32))) n5 ∧ ∀ M7 : k_M, M7 = va_up M0 p0 (some (kI G n5 (upd f6 (((p1 + (17 : Int32)) + (p2 / (30 : Int32)))).toNatClampNeg ((f2 (((p1 + (17 : Int32)) + (p2 / (30 : Int32)))).toNatClampNeg) ||| ((1 : Int32) <<< ((p2 - p2 / (30 : Int32) * (30 : Int32)) &&& 31)))))) →
  post M7))
set_option maxHeartbeats 4000000 in
set_option maxRecDepth 100000 in
theorem c_X4_learns (l : Launch) (G : k_G) (M0 : k_M) (sz : Nat) (post : k_M → Prop) (p0 : Nat) (p1 : Int32) (p2 : Int32) (h : wp_X4_learns G post p0 p1 p2 M0) : Met l yX4_learns wsX4_learns ({ frames := 0, cells := 0, slots := 0, locals := 0 }) (va_Pc [.ref p0, .int p1, .int p2] (kPre G M0 sz)) (va_Qv post (kB G M0 sz) (kA M0 sz)) 0 0 (kA M0 sz) := by
  refine Met.ofW (cc := cX4_learns) (maxL := 3) (ret := none) (by decide) rfl ?_
  intro p e s m args below meth c s₁ B hml hv
  obtain ⟨rfl, hsz, hR, hE⟩ := hv
  have hx := B.exec
  have hb := B.bytes
  have hr := B.returns
  have hts := atoms_spec (ws := wsX4_learns) B.pre
  have hown : s.vm.findClass RX4 = some m.cls := findClass_of_methodNamed B.named
  have hlocks := B.notSynchronized
  subst hsz
  have hK := hE.1
  have hA : ∀ q, s.heap.size ≤ q → kA M0 s.heap.size q := kA.new
  have hS : va_S (kA M0 s.heap.size) s.heap s.heap [] := va_S.rf
  have hl := lv_entry ([.ref p0, .int p1, .int p2]) (n := 3) (Nat.le_of_ble_eq_true rfl)
  rw [lg_entry_eq]
  generalize (lg_sl ([.ref p0, .int p1, .int p2]) ++ List.replicate (3 - (lg_sl ([.ref p0, .int p1, .int p2])).length) Slot.unset).toArray = ls at hl ⊢
  have hl : lv_has ls 3 [(0, .ref p0), (1, .int p1), (2, .int p2)] := hl
  have hR0 := hR
  refine lv_aload_n hx hb dX4_learns_0 rfl (lv_at hl 0 rfl) ?_
  refine lv_iload_n hx hb dX4_learns_1 rfl (lv_at hl 1 rfl) ?_
  refine lv_bipush (v := (17 : Int32)) hx hb dX4_learns_2 (by decide) ?_
  refine lv_iadd hx hb dX4_learns_4 ?_
  refine lv_iload_n hx hb dX4_learns_5 rfl (lv_at hl 2 rfl) ?_
  refine lv_bipush (v := (30 : Int32)) hx hb dX4_learns_6 (by decide) ?_
  refine lv_idiv hx hb dX4_learns_8 (by decide) ?_
  refine lv_iadd hx hb dX4_learns_9 ?_
  refine lv_dup2_11 hx hb dX4_learns_10 rfl rfl ?_
  obtain ⟨n1, f2, hm3, hv4, h⟩ := h
  refine k_iald hx hb hK hR hm3 hv4 dX4_learns_11 ?_
  refine lv_iconst (v := (1 : Int32)) hx hb dX4_learns_12 (by decide) ?_
  refine lv_iload_n hx hb dX4_learns_13 rfl (lv_at hl 2 rfl) ?_
  refine lv_bipush (v := (30 : Int32)) hx hb dX4_learns_14 (by decide) ?_
  refine lv_irem hx hb dX4_learns_16 (by decide) ?_
  refine lv_ishl hx hb dX4_learns_17 ?_
  refine lv_ior hx hb dX4_learns_18 ?_
  obtain ⟨n5, f6, hm8, hv9, h⟩ := h
  replace h := h _ rfl
  refine k_iast hx hb hK hR hS hm8 hv9 dX4_learns_19 (fun H locs hR hS => ?_)
  exact k_retv hx hb hr hlocks hR hS h dX4_learns_20

def wp_X4_happens (G : k_G) (post : Int32 → k_M → Prop) (p0 : Nat) (p1 : Int32) (M0 : k_M) : Prop :=
  (∃ fs1 v2, M0 p0 = some (kO 5 fs1) ∧ fs1[0]? = some (.ref v2) ∧
  (∃ n5 f6, M0 v2 = some (kI G n5 f6) ∧ vp_in (2 : Int32) n5 ∧
  (∃ fs9 v10, M0 p0 = some (kO 5 fs9) ∧ fs9[0]? = some (.ref v10) ∧
  wp_X4_helperAt G (fun r13 M14 =>
  wp_X4_raise G (fun M17 =>
  (∃ fs19 v20, M17 p0 = some (kO 5 fs19) ∧ fs19[0]? = some (.ref v20) ∧
  wp_X4_helperAt G (fun r23 M24 =>
  wp_X4_learns G (fun M27 =>
  (∃ fs29 v30, M27 p0 = some (kO 5 fs29) ∧ fs29[0]? = some (.ref v30) ∧
  (∃ n33 f34, M27 v30 = some (kI G n33 f34) ∧ vp_in ((3 : Int32) + (f6 ((2 : Int32)).toNatClampNeg)) n33 ∧ ∀ M35 : k_M, M35 = va_up M27 v30 (some (kI G n33 (upd f34 (((3 : Int32) + (f6 ((2 : Int32)).toNatClampNeg))).toNatClampNeg p1))) →
  (∃ fs38 v39, M35 p0 = some (kO 5 fs38) ∧ fs38[0]? = some (.ref v39) ∧
  (∃ n42 f43, M35 v39 = some (kI G n42 f43) ∧ vp_in (2 : Int32) n42 ∧
  (∃ n46 f47, M35 v39 = some (kI G n46 f47) ∧ vp_in (2 : Int32) n46 ∧ ∀ M48 : k_M, M48 = va_up M35 v39 (some (kI G n46 (upd f47 ((2 : Int32)).toNatClampNeg ((f43 ((2 : Int32)).toNatClampNeg) + (1 : Int32))))) →
  post (f6 ((2 : Int32)).toNatClampNeg) M48)))))) v20 r23 (f6 ((2 : Int32)).toNatClampNeg) M24) p1 M17)) v10 r13 M14) p1 M0)))
theorem in_X4_happens_X4 : ∀ w ∈ wsX40, w ∈ wsX4_happens := by decide +kernel
set_option maxHeartbeats 4000000 in
set_option maxRecDepth 100000 in
theorem c_X4_happens (l : Launch) (G : k_G) (M0 : k_M) (sz : Nat) (post : Int32 → k_M → Prop) (p0 : Nat) (p1 : Int32) (h : wp_X4_happens G post p0 p1 M0) : Met l yX4_happens wsX4_happens ({ frames := 2, cells := 0, slots := 0, locals := 46 }) (va_Pc [.ref p0, .int p1] (kPre G M0 sz)) (va_Qi post (kB G M0 sz) (kA M0 sz)) 0 0 (kA M0 sz) := by
  refine Met.ofW (cc := cX4_happens) (maxL := 3) (ret := (some .int)) (by decide) rfl ?_
  intro p e s m args below meth c s₁ B hml hv
  obtain ⟨rfl, hsz, hR, hE⟩ := hv
  have hx := B.exec
  have hb := B.bytes
  have hr := B.returns
  have hts := atoms_spec (ws := wsX4_happens) B.pre
  have hown : s.vm.findClass RX4 = some m.cls := findClass_of_methodNamed B.named
  have hlocks := B.notSynchronized
  subst hsz
  have hK := hE.1
  have hA : ∀ q, s.heap.size ≤ q → kA M0 s.heap.size q := kA.new
  have hS : va_S (kA M0 s.heap.size) s.heap s.heap [] := va_S.rf
  have hw1 := hts (.fieldLink RX4 7 "ForkedStampsModel" "state" "[I") (by decide +kernel)
  have hl := lv_entry ([.ref p0, .int p1]) (n := 3) (Nat.le_of_ble_eq_true rfl)
  rw [lg_entry_eq]
  generalize (lg_sl ([.ref p0, .int p1]) ++ List.replicate (3 - (lg_sl ([.ref p0, .int p1])).length) Slot.unset).toArray = ls at hl ⊢
  have hl : lv_has ls 3 [(0, .ref p0), (1, .int p1)] := hl
  have hR0 := hR
  refine lv_aload_n hx hb dX4_happens_0 rfl (lv_at hl 0 rfl) ?_
  obtain ⟨fs1, v2, hm3, hv4, h⟩ := h
  refine k_get (ci := 5) (C := RX4) (T := TX4) (N := 13) hx hb hts in_X4_happens_X4 hown hK hR hm3 rfl 0 (by decide) hw1 (fun _ h9 => h9) hv4 dX4_happens_1 ?_
  refine lv_iconst (v := (2 : Int32)) hx hb dX4_happens_4 (by decide) ?_
  obtain ⟨n5, f6, hm7, hv8, h⟩ := h
  refine k_iald hx hb hK hR hm7 hv8 dX4_happens_5 ?_
  refine lv_istore_n (lv' := [(2, .int (f6 ((2 : Int32)).toNatClampNeg)), (0, .ref p0), (1, .int p1)]) hx hb dX4_happens_6 rfl hl (by decide) rfl (fun ls hl => ?_)
  refine lv_aload_n hx hb dX4_happens_7 rfl (lv_at hl 1 rfl) ?_
  obtain ⟨fs9, v10, hm11, hv12, h⟩ := h
  refine k_get (ci := 5) (C := RX4) (T := TX4) (N := 13) hx hb hts in_X4_happens_X4 hown hK hR hm11 rfl 0 (by decide) hw1 (fun _ h9 => h9) hv12 dX4_happens_8 ?_
  refine lv_iload_n hx hb dX4_happens_11 rfl (lv_at hl 2 rfl) ?_
  refine k_calli0 (va_runS (As := [.int p1]) (rest := [.ref v10]) ⟨hx, hb, hml, hown, hts⟩ (c_X4_helperAt l G _ _ _ p1 h) (va_cwS 1 hts gX4_happens_X4_helperAt rfl rfl rfl (by decide +kernel) ⟨Nat.le_of_ble_eq_true rfl, Nat.le_of_ble_eq_true rfl⟩) (k_preS hR hS hA hE) rfl rfl hl.1 rfl (lv_room (Nat.le_of_ble_eq_true rfl)) dX4_happens_12 ⟨Nat.zero_le _, Nat.zero_le _⟩) hR hS hA (fun r13 M14 H locs h hR hS => ?_)
  refine k_callv0 (va_runS (As := [.ref v10, .int r13]) (rest := []) ⟨hx, hb, hml, hown, hts⟩ (c_X4_raise l G _ _ _ v10 r13 h) (va_cwS 2 hts gX4_happens_X4_raise rfl rfl rfl (by decide +kernel) ⟨Nat.le_of_ble_eq_true rfl, Nat.le_of_ble_eq_true rfl⟩) (k_preS hR hS hA hE) rfl rfl hl.1 rfl (lv_room (Nat.le_of_ble_eq_true rfl)) dX4_happens_15 ⟨Nat.zero_le _, Nat.zero_le _⟩) hR hS hA (fun M17 H locs h hR hS => ?_)
  refine lv_aload_n hx hb dX4_happens_18 rfl (lv_at hl 1 rfl) ?_
  obtain ⟨fs19, v20, hm21, hv22, h⟩ := h
  refine k_get (ci := 5) (C := RX4) (T := TX4) (N := 13) hx hb hts in_X4_happens_X4 hown hK hR hm21 rfl 0 (by decide) hw1 (fun _ h9 => h9) hv22 dX4_happens_19 ?_
  refine lv_iload_n hx hb dX4_happens_22 rfl (lv_at hl 2 rfl) ?_
  refine k_calli0 (va_runS (As := [.int p1]) (rest := [.ref v20]) ⟨hx, hb, hml, hown, hts⟩ (c_X4_helperAt l G _ _ _ p1 h) (va_cwS 1 hts gX4_happens_X4_helperAt rfl rfl rfl (by decide +kernel) ⟨Nat.le_of_ble_eq_true rfl, Nat.le_of_ble_eq_true rfl⟩) (k_preS hR hS hA hE) rfl rfl hl.1 rfl (lv_room (Nat.le_of_ble_eq_true rfl)) dX4_happens_23 ⟨Nat.zero_le _, Nat.zero_le _⟩) hR hS hA (fun r23 M24 H locs h hR hS => ?_)
  refine lv_iload_n hx hb dX4_happens_26 rfl (lv_at hl 0 rfl) ?_
  refine k_callv0 (va_runS (As := [.ref v20, .int r23, .int (f6 ((2 : Int32)).toNatClampNeg)]) (rest := []) ⟨hx, hb, hml, hown, hts⟩ (c_X4_learns l G _ _ _ v20 r23 (f6 ((2 : Int32)).toNatClampNeg) h) (va_cwS 3 hts gX4_happens_X4_learns rfl rfl rfl (by decide +kernel) ⟨Nat.le_of_ble_eq_true rfl, Nat.le_of_ble_eq_true rfl⟩) (k_preS hR hS hA hE) rfl rfl hl.1 rfl (lv_room (Nat.le_of_ble_eq_true rfl)) dX4_happens_27 ⟨Nat.zero_le _, Nat.zero_le _⟩) hR hS hA (fun M27 H locs h hR hS => ?_)
  refine lv_aload_n hx hb dX4_happens_30 rfl (lv_at hl 1 rfl) ?_
  obtain ⟨fs29, v30, hm31, hv32, h⟩ := h
  refine k_get (ci := 5) (C := RX4) (T := TX4) (N := 13) hx hb hts in_X4_happens_X4 hown hK hR hm31 rfl 0 (by decide) hw1 (fun _ h9 => h9) hv32 dX4_happens_31 ?_
  refine lv_iconst (v := (3 : Int32)) hx hb dX4_happens_34 (by decide) ?_
  refine lv_iload_n hx hb dX4_happens_35 rfl (lv_at hl 0 rfl) ?_
  refine lv_iadd hx hb dX4_happens_36 ?_
  refine lv_iload_n hx hb dX4_happens_37 rfl (lv_at hl 2 rfl) ?_
  obtain ⟨n33, f34, hm36, hv37, h⟩ := h
  replace h := h _ rfl
  refine k_iast hx hb hK hR hS hm36 hv37 dX4_happens_38 (fun H locs hR hS => ?_)
  refine lv_aload_n hx hb dX4_happens_39 rfl (lv_at hl 1 rfl) ?_
  obtain ⟨fs38, v39, hm40, hv41, h⟩ := h
  refine k_get (ci := 5) (C := RX4) (T := TX4) (N := 13) hx hb hts in_X4_happens_X4 hown hK hR hm40 rfl 0 (by decide) hw1 (fun _ h9 => h9) hv41 dX4_happens_40 ?_
  refine lv_iconst (v := (2 : Int32)) hx hb dX4_happens_43 (by decide) ?_
  refine lv_dup2_11 hx hb dX4_happens_44 rfl rfl ?_
  obtain ⟨n42, f43, hm44, hv45, h⟩ := h
  refine k_iald hx hb hK hR hm44 hv45 dX4_happens_45 ?_
  refine lv_iconst (v := (1 : Int32)) hx hb dX4_happens_46 (by decide) ?_
  refine lv_iadd hx hb dX4_happens_47 ?_
  obtain ⟨n46, f47, hm49, hv50, h⟩ := h
  replace h := h _ rfl
  refine k_iast hx hb hK hR hS hm49 hv50 dX4_happens_48 (fun H locs hR hS => ?_)
  refine lv_iload_n hx hb dX4_happens_49 rfl (lv_at hl 0 rfl) ?_
  exact k_reti hx hb hr hlocks rfl hR hS h dX4_happens_50

def wp_X4_event (G : k_G) (post : Int32 → k_M → Prop) (p0 : Nat) (p1 : Int32) (M0 : k_M) : Prop :=
  (∃ fs4, M0 p0 = some (kO 5 fs4) ∧ wp_X4_isHelper G (fun r1 M2 =>
  ((¬ r1 = 0 →
  (∃ fs5 v6, M2 p0 = some (kO 5 fs5) ∧ fs5[0]? = some (.ref v6) ∧
    (∃ n9 f10, M2 v6 = some (kI G n9 f10) ∧ vp_in (2 : Int32) n9 ∧
    ((¬ (f10 ((2 : Int32)).toNatClampNeg) = (120 : Int32) →
    (∃ fs16, M2 p0 = some (kO 5 fs16) ∧ wp_X4_record G (fun M14 =>
      (∃ fs20, M14 p0 = some (kO 5 fs20) ∧ wp_X4_happens G (fun r17 M18 =>
      post r17 M18) p0 p1 M14)) p0 M2)) ∧
    ((f10 ((2 : Int32)).toNatClampNeg) = (120 : Int32) →
    post (-4 : Int32) M2))))) ∧
  (r1 = 0 →
  post (-1 : Int32) M2))) p0 p1 M0)
theorem in_X4_event_X4 : ∀ w ∈ wsX40, w ∈ wsX4_event := by decide +kernel
set_option maxHeartbeats 4000000 in
set_option maxRecDepth 100000 in
theorem c_X4_event (l : Launch) (G : k_G) (M0 : k_M) (sz : Nat) (post : Int32 → k_M → Prop) (p0 : Nat) (p1 : Int32) (h : wp_X4_event G post p0 p1 M0) : Met l yX4_event wsX4_event ({ frames := 3, cells := 0, slots := 0, locals := 68 }) (va_Pc [.ref p0, .int p1] (kPre G M0 sz)) (va_Qi post (kB G M0 sz) (kA M0 sz)) 0 0 (kA M0 sz) := by
  refine Met.ofW (cc := cX4_event) (maxL := 2) (ret := (some .int)) (by decide) rfl ?_
  intro p e s m args below meth c s₁ B hml hv
  obtain ⟨rfl, hsz, hR, hE⟩ := hv
  have hx := B.exec
  have hb := B.bytes
  have hr := B.returns
  have hts := atoms_spec (ws := wsX4_event) B.pre
  have hown : s.vm.findClass RX4 = some m.cls := findClass_of_methodNamed B.named
  have hlocks := B.notSynchronized
  subst hsz
  have hK := hE.1
  have hA : ∀ q, s.heap.size ≤ q → kA M0 s.heap.size q := kA.new
  have hS : va_S (kA M0 s.heap.size) s.heap s.heap [] := va_S.rf
  have hw1 := hts (.fieldLink RX4 7 "ForkedStampsModel" "state" "[I") (by decide +kernel)
  have hl := lv_entry ([.ref p0, .int p1]) (n := 2) (Nat.le_of_ble_eq_true rfl)
  rw [lg_entry_eq]
  generalize (lg_sl ([.ref p0, .int p1]) ++ List.replicate (2 - (lg_sl ([.ref p0, .int p1])).length) Slot.unset).toArray = ls at hl ⊢
  have hl : lv_has ls 2 [(0, .ref p0), (1, .int p1)] := hl
  have hR0 := hR
  refine lv_aload_n hx hb dX4_event_0 rfl (lv_at hl 0 rfl) ?_
  refine lv_iload_n hx hb dX4_event_1 rfl (lv_at hl 1 rfl) ?_
  obtain ⟨fs4, hm3, h⟩ := h
  refine k_calli0 (va_runV (As := [.int p1]) (rest := []) ⟨hx, hb, hml, hown, hts⟩ (c_X4_isHelper l G _ _ _ p0 p1 h) (cwV 1 hts gX4_event_X4_isHelper rfl rfl rfl (by decide +kernel) ⟨Nat.le_of_ble_eq_true rfl, Nat.le_of_ble_eq_true rfl⟩) (k_preV (q := (RX4, TX4, 13)) hm3 rfl hR hS hA hE) rfl rfl hl.1 rfl (lv_room (Nat.le_of_ble_eq_true rfl)) dX4_event_2 ⟨Nat.zero_le _, Nat.zero_le _⟩) hR hS hA (fun r1 M2 H locs h hR hS => ?_)
  obtain ⟨ha, hb2⟩ := h
  refine lv_if_ne (tgt := 10) hx hb dX4_event_5 (by decide) (fun hc => ?_) (fun hc => ?_)
  · replace h := ha hc
    refine lv_aload_n hx hb dX4_event_10 rfl (lv_at hl 0 rfl) ?_
    obtain ⟨fs5, v6, hm7, hv8, h⟩ := h
    refine k_get (ci := 5) (C := RX4) (T := TX4) (N := 13) hx hb hts in_X4_event_X4 hown hK hR hm7 rfl 0 (by decide) hw1 (fun _ h9 => h9) hv8 dX4_event_11 ?_
    refine lv_iconst (v := (2 : Int32)) hx hb dX4_event_14 (by decide) ?_
    obtain ⟨n9, f10, hm11, hv12, h⟩ := h
    refine k_iald hx hb hK hR hm11 hv12 dX4_event_15 ?_
    refine lv_bipush (v := (120 : Int32)) hx hb dX4_event_16 (by decide) ?_
    obtain ⟨ha, hb2⟩ := h
    refine lv_icmp_ne (tgt := 24) hx hb dX4_event_18 (by decide) (fun hc => ?_) (fun hc => ?_)
    · replace h := ha hc
      refine lv_aload_n hx hb dX4_event_24 rfl (lv_at hl 0 rfl) ?_
      obtain ⟨fs16, hm15, h⟩ := h
      refine k_callv0 (va_runV (As := []) (rest := []) ⟨hx, hb, hml, hown, hts⟩ (c_X4_record l G _ _ _ p0 h) (cwV 0 hts gX4_event_X4_record rfl rfl rfl (by decide +kernel) ⟨Nat.le_of_ble_eq_true rfl, Nat.le_of_ble_eq_true rfl⟩) (k_preV (q := (RX4, TX4, 13)) hm15 rfl hR hS hA hE) rfl rfl hl.1 rfl (lv_room (Nat.le_of_ble_eq_true rfl)) dX4_event_25 ⟨Nat.zero_le _, Nat.zero_le _⟩) hR hS hA (fun M14 H locs h hR hS => ?_)
      refine lv_aload_n hx hb dX4_event_28 rfl (lv_at hl 0 rfl) ?_
      refine lv_iload_n hx hb dX4_event_29 rfl (lv_at hl 1 rfl) ?_
      obtain ⟨fs20, hm19, h⟩ := h
      refine k_calli0 (va_runV (As := [.int p1]) (rest := []) ⟨hx, hb, hml, hown, hts⟩ (c_X4_happens l G _ _ _ p0 p1 h) (cwV 1 hts gX4_event_X4_happens rfl rfl rfl (by decide +kernel) ⟨Nat.le_of_ble_eq_true rfl, Nat.le_of_ble_eq_true rfl⟩) (k_preV (q := (RX4, TX4, 13)) hm19 rfl hR hS hA hE) rfl rfl hl.1 rfl (lv_room (Nat.le_of_ble_eq_true rfl)) dX4_event_30 ⟨Nat.zero_le _, Nat.zero_le _⟩) hR hS hA (fun r17 M18 H locs h hR hS => ?_)
      exact k_reti hx hb hr hlocks rfl hR hS h dX4_event_33
    · replace h := hb2 hc
      refine lv_bipush (v := (-4 : Int32)) hx hb dX4_event_21 (by decide) ?_
      exact k_reti hx hb hr hlocks rfl hR hS h dX4_event_23
  · replace h := hb2 hc
    refine lv_iconst (v := (-1 : Int32)) hx hb dX4_event_8 (by decide) ?_
    exact k_reti hx hb hr hlocks rfl hR hS h dX4_event_9

def wp_X4_send (G : k_G) (post : Int32 → k_M → Prop) (p0 : Nat) (p1 : Int32) (M0 : k_M) : Prop :=
  (∃ fs4, M0 p0 = some (kO 5 fs4) ∧ wp_X4_isHelper G (fun r1 M2 =>
  ((¬ r1 = 0 →
  (∃ fs5 v6, M2 p0 = some (kO 5 fs5) ∧ fs5[0]? = some (.ref v6) ∧
    (∃ n9 f10, M2 v6 = some (kI G n9 f10) ∧ vp_in (1 : Int32) n9 ∧
    ((¬ (f10 ((1 : Int32)).toNatClampNeg) = (8 : Int32) →
    (∃ fs16, M2 p0 = some (kO 5 fs16) ∧ wp_X4_record G (fun M14 =>
      (∃ fs17 v18, M14 p0 = some (kO 5 fs17) ∧ fs17[0]? = some (.ref v18) ∧
      (∃ n21 f22, M14 v18 = some (kI G n21 f22) ∧ vp_in (1 : Int32) n21 ∧
      (∃ fs25 v26, M14 p0 = some (kO 5 fs25) ∧ fs25[0]? = some (.ref v26) ∧
      wp_X4_helperAt G (fun r29 M30 =>
      (∃ fs32 v33, M30 p0 = some (kO 5 fs32) ∧ fs32[0]? = some (.ref v33) ∧
      wp_X4_messageAt G (fun r36 M37 =>
      wp_X4_moves G (fun M40 =>
      (∃ fs42 v43, M40 p0 = some (kO 5 fs42) ∧ fs42[0]? = some (.ref v43) ∧
      wp_X4_messageAt G (fun r46 M47 =>
      (∃ n49 f50, M47 v43 = some (kI G n49 f50) ∧ vp_in (r46 + (0 : Int32)) n49 ∧ ∀ M51 : k_M, M51 = va_up M47 v43 (some (kI G n49 (upd f50 ((r46 + (0 : Int32))).toNatClampNeg p1))) →
      (∃ fs54 v55, M51 p0 = some (kO 5 fs54) ∧ fs54[0]? = some (.ref v55) ∧
      (∃ n58 f59, M51 v55 = some (kI G n58 f59) ∧ vp_in (1 : Int32) n58 ∧
      (∃ n62 f63, M51 v55 = some (kI G n62 f63) ∧ vp_in (1 : Int32) n62 ∧ ∀ M64 : k_M, M64 = va_up M51 v55 (some (kI G n62 (upd f63 ((1 : Int32)).toNatClampNeg ((f59 ((1 : Int32)).toNatClampNeg) + (1 : Int32))))) →
      post (f22 ((1 : Int32)).toNatClampNeg) M64))))) (f22 ((1 : Int32)).toNatClampNeg) M40)) v26 r29 v33 r36 (21 : Int32) M37) (f22 ((1 : Int32)).toNatClampNeg) M30)) p1 M14)))) p0 M2)) ∧
    ((f10 ((1 : Int32)).toNatClampNeg) = (8 : Int32) →
    post (-4 : Int32) M2))))) ∧
  (r1 = 0 →
  post (-1 : Int32) M2))) p0 p1 M0)
theorem in_X4_send_X4 : ∀ w ∈ wsX40, w ∈ wsX4_send := by decide +kernel
set_option maxHeartbeats 4000000 in
set_option maxRecDepth 100000 in
theorem c_X4_send (l : Launch) (G : k_G) (M0 : k_M) (sz : Nat) (post : Int32 → k_M → Prop) (p0 : Nat) (p1 : Int32) (h : wp_X4_send G post p0 p1 M0) : Met l yX4_send wsX4_send ({ frames := 2, cells := 0, slots := 0, locals := 46 }) (va_Pc [.ref p0, .int p1] (kPre G M0 sz)) (va_Qi post (kB G M0 sz) (kA M0 sz)) 0 0 (kA M0 sz) := by
  refine Met.ofW (cc := cX4_send) (maxL := 3) (ret := (some .int)) (by decide) rfl ?_
  intro p e s m args below meth c s₁ B hml hv
  obtain ⟨rfl, hsz, hR, hE⟩ := hv
  have hx := B.exec
  have hb := B.bytes
  have hr := B.returns
  have hts := atoms_spec (ws := wsX4_send) B.pre
  have hown : s.vm.findClass RX4 = some m.cls := findClass_of_methodNamed B.named
  have hlocks := B.notSynchronized
  subst hsz
  have hK := hE.1
  have hA : ∀ q, s.heap.size ≤ q → kA M0 s.heap.size q := kA.new
  have hS : va_S (kA M0 s.heap.size) s.heap s.heap [] := va_S.rf
  have hw1 := hts (.fieldLink RX4 7 "ForkedStampsModel" "state" "[I") (by decide +kernel)
  have hl := lv_entry ([.ref p0, .int p1]) (n := 3) (Nat.le_of_ble_eq_true rfl)
  rw [lg_entry_eq]
  generalize (lg_sl ([.ref p0, .int p1]) ++ List.replicate (3 - (lg_sl ([.ref p0, .int p1])).length) Slot.unset).toArray = ls at hl ⊢
  have hl : lv_has ls 3 [(0, .ref p0), (1, .int p1)] := hl
  have hR0 := hR
  refine lv_aload_n hx hb dX4_send_0 rfl (lv_at hl 0 rfl) ?_
  refine lv_iload_n hx hb dX4_send_1 rfl (lv_at hl 1 rfl) ?_
  obtain ⟨fs4, hm3, h⟩ := h
  refine k_calli0 (va_runV (As := [.int p1]) (rest := []) ⟨hx, hb, hml, hown, hts⟩ (c_X4_isHelper l G _ _ _ p0 p1 h) (cwV 1 hts gX4_send_X4_isHelper rfl rfl rfl (by decide +kernel) ⟨Nat.le_of_ble_eq_true rfl, Nat.le_of_ble_eq_true rfl⟩) (k_preV (q := (RX4, TX4, 13)) hm3 rfl hR hS hA hE) rfl rfl hl.1 rfl (lv_room (Nat.le_of_ble_eq_true rfl)) dX4_send_2 ⟨Nat.zero_le _, Nat.zero_le _⟩) hR hS hA (fun r1 M2 H locs h hR hS => ?_)
  obtain ⟨ha, hb2⟩ := h
  refine lv_if_ne (tgt := 10) hx hb dX4_send_5 (by decide) (fun hc => ?_) (fun hc => ?_)
  · replace h := ha hc
    refine lv_aload_n hx hb dX4_send_10 rfl (lv_at hl 0 rfl) ?_
    obtain ⟨fs5, v6, hm7, hv8, h⟩ := h
    refine k_get (ci := 5) (C := RX4) (T := TX4) (N := 13) hx hb hts in_X4_send_X4 hown hK hR hm7 rfl 0 (by decide) hw1 (fun _ h9 => h9) hv8 dX4_send_11 ?_
    refine lv_iconst (v := (1 : Int32)) hx hb dX4_send_14 (by decide) ?_
    obtain ⟨n9, f10, hm11, hv12, h⟩ := h
    refine k_iald hx hb hK hR hm11 hv12 dX4_send_15 ?_
    refine lv_bipush (v := (8 : Int32)) hx hb dX4_send_16 (by decide) ?_
    obtain ⟨ha, hb2⟩ := h
    refine lv_icmp_ne (tgt := 24) hx hb dX4_send_18 (by decide) (fun hc => ?_) (fun hc => ?_)
    · replace h := ha hc
      refine lv_aload_n hx hb dX4_send_24 rfl (lv_at hl 0 rfl) ?_
      obtain ⟨fs16, hm15, h⟩ := h
      refine k_callv0 (va_runV (As := []) (rest := []) ⟨hx, hb, hml, hown, hts⟩ (c_X4_record l G _ _ _ p0 h) (cwV 0 hts gX4_send_X4_record rfl rfl rfl (by decide +kernel) ⟨Nat.le_of_ble_eq_true rfl, Nat.le_of_ble_eq_true rfl⟩) (k_preV (q := (RX4, TX4, 13)) hm15 rfl hR hS hA hE) rfl rfl hl.1 rfl (lv_room (Nat.le_of_ble_eq_true rfl)) dX4_send_25 ⟨Nat.zero_le _, Nat.zero_le _⟩) hR hS hA (fun M14 H locs h hR hS => ?_)
      refine lv_aload_n hx hb dX4_send_28 rfl (lv_at hl 0 rfl) ?_
      obtain ⟨fs17, v18, hm19, hv20, h⟩ := h
      refine k_get (ci := 5) (C := RX4) (T := TX4) (N := 13) hx hb hts in_X4_send_X4 hown hK hR hm19 rfl 0 (by decide) hw1 (fun _ h9 => h9) hv20 dX4_send_29 ?_
      refine lv_iconst (v := (1 : Int32)) hx hb dX4_send_32 (by decide) ?_
      obtain ⟨n21, f22, hm23, hv24, h⟩ := h
      refine k_iald hx hb hK hR hm23 hv24 dX4_send_33 ?_
      refine lv_istore_n (lv' := [(2, .int (f22 ((1 : Int32)).toNatClampNeg)), (0, .ref p0), (1, .int p1)]) hx hb dX4_send_34 rfl hl (by decide) rfl (fun ls hl => ?_)
      refine lv_aload_n hx hb dX4_send_35 rfl (lv_at hl 1 rfl) ?_
      obtain ⟨fs25, v26, hm27, hv28, h⟩ := h
      refine k_get (ci := 5) (C := RX4) (T := TX4) (N := 13) hx hb hts in_X4_send_X4 hown hK hR hm27 rfl 0 (by decide) hw1 (fun _ h9 => h9) hv28 dX4_send_36 ?_
      refine lv_iload_n hx hb dX4_send_39 rfl (lv_at hl 2 rfl) ?_
      refine k_calli0 (va_runS (As := [.int p1]) (rest := [.ref v26]) ⟨hx, hb, hml, hown, hts⟩ (c_X4_helperAt l G _ _ _ p1 h) (va_cwS 1 hts gX4_send_X4_helperAt rfl rfl rfl (by decide +kernel) ⟨Nat.le_of_ble_eq_true rfl, Nat.le_of_ble_eq_true rfl⟩) (k_preS hR hS hA hE) rfl rfl hl.1 rfl (lv_room (Nat.le_of_ble_eq_true rfl)) dX4_send_40 ⟨Nat.zero_le _, Nat.zero_le _⟩) hR hS hA (fun r29 M30 H locs h hR hS => ?_)
      refine lv_aload_n hx hb dX4_send_43 rfl (lv_at hl 1 rfl) ?_
      obtain ⟨fs32, v33, hm34, hv35, h⟩ := h
      refine k_get (ci := 5) (C := RX4) (T := TX4) (N := 13) hx hb hts in_X4_send_X4 hown hK hR hm34 rfl 0 (by decide) hw1 (fun _ h9 => h9) hv35 dX4_send_44 ?_
      refine lv_iload_n hx hb dX4_send_47 rfl (lv_at hl 0 rfl) ?_
      refine k_calli0 (va_runS (As := [.int (f22 ((1 : Int32)).toNatClampNeg)]) (rest := [.ref v33, .int r29, .ref v26]) ⟨hx, hb, hml, hown, hts⟩ (c_X4_messageAt l G _ _ _ (f22 ((1 : Int32)).toNatClampNeg) h) (va_cwS 1 hts gX4_send_X4_messageAt rfl rfl rfl (by decide +kernel) ⟨Nat.le_of_ble_eq_true rfl, Nat.le_of_ble_eq_true rfl⟩) (k_preS hR hS hA hE) rfl rfl hl.1 rfl (lv_room (Nat.le_of_ble_eq_true rfl)) dX4_send_48 ⟨Nat.zero_le _, Nat.zero_le _⟩) hR hS hA (fun r36 M37 H locs h hR hS => ?_)
      refine lv_bipush (v := (21 : Int32)) hx hb dX4_send_51 (by decide) ?_
      refine k_callv0 (va_runS (As := [.ref v26, .int r29, .ref v33, .int r36, .int (21 : Int32)]) (rest := []) ⟨hx, hb, hml, hown, hts⟩ (c_X4_moves l G _ _ _ v26 r29 v33 r36 (21 : Int32) h) (va_cwS 5 hts gX4_send_X4_moves rfl rfl rfl (by decide +kernel) ⟨Nat.le_of_ble_eq_true rfl, Nat.le_of_ble_eq_true rfl⟩) (k_preS hR hS hA hE) rfl rfl hl.1 rfl (lv_room (Nat.le_of_ble_eq_true rfl)) dX4_send_53 ⟨Nat.zero_le _, Nat.zero_le _⟩) hR hS hA (fun M40 H locs h hR hS => ?_)
      refine lv_aload_n hx hb dX4_send_56 rfl (lv_at hl 1 rfl) ?_
      obtain ⟨fs42, v43, hm44, hv45, h⟩ := h
      refine k_get (ci := 5) (C := RX4) (T := TX4) (N := 13) hx hb hts in_X4_send_X4 hown hK hR hm44 rfl 0 (by decide) hw1 (fun _ h9 => h9) hv45 dX4_send_57 ?_
      refine lv_iload_n hx hb dX4_send_60 rfl (lv_at hl 0 rfl) ?_
      refine k_calli0 (va_runS (As := [.int (f22 ((1 : Int32)).toNatClampNeg)]) (rest := [.ref v43]) ⟨hx, hb, hml, hown, hts⟩ (c_X4_messageAt l G _ _ _ (f22 ((1 : Int32)).toNatClampNeg) h) (va_cwS 1 hts gX4_send_X4_messageAt rfl rfl rfl (by decide +kernel) ⟨Nat.le_of_ble_eq_true rfl, Nat.le_of_ble_eq_true rfl⟩) (k_preS hR hS hA hE) rfl rfl hl.1 rfl (lv_room (Nat.le_of_ble_eq_true rfl)) dX4_send_61 ⟨Nat.zero_le _, Nat.zero_le _⟩) hR hS hA (fun r46 M47 H locs h hR hS => ?_)
      refine lv_iconst (v := (0 : Int32)) hx hb dX4_send_64 (by decide) ?_
      refine lv_iadd hx hb dX4_send_65 ?_
      refine lv_iload_n hx hb dX4_send_66 rfl (lv_at hl 2 rfl) ?_
      obtain ⟨n49, f50, hm52, hv53, h⟩ := h
      replace h := h _ rfl
      refine k_iast hx hb hK hR hS hm52 hv53 dX4_send_67 (fun H locs hR hS => ?_)
      refine lv_aload_n hx hb dX4_send_68 rfl (lv_at hl 1 rfl) ?_
      obtain ⟨fs54, v55, hm56, hv57, h⟩ := h
      refine k_get (ci := 5) (C := RX4) (T := TX4) (N := 13) hx hb hts in_X4_send_X4 hown hK hR hm56 rfl 0 (by decide) hw1 (fun _ h9 => h9) hv57 dX4_send_69 ?_
      refine lv_iconst (v := (1 : Int32)) hx hb dX4_send_72 (by decide) ?_
      refine lv_dup2_11 hx hb dX4_send_73 rfl rfl ?_
      obtain ⟨n58, f59, hm60, hv61, h⟩ := h
      refine k_iald hx hb hK hR hm60 hv61 dX4_send_74 ?_
      refine lv_iconst (v := (1 : Int32)) hx hb dX4_send_75 (by decide) ?_
      refine lv_iadd hx hb dX4_send_76 ?_
      obtain ⟨n62, f63, hm65, hv66, h⟩ := h
      replace h := h _ rfl
      refine k_iast hx hb hK hR hS hm65 hv66 dX4_send_77 (fun H locs hR hS => ?_)
      refine lv_iload_n hx hb dX4_send_78 rfl (lv_at hl 0 rfl) ?_
      exact k_reti hx hb hr hlocks rfl hR hS h dX4_send_79
    · replace h := hb2 hc
      refine lv_bipush (v := (-4 : Int32)) hx hb dX4_send_21 (by decide) ?_
      exact k_reti hx hb hr hlocks rfl hR hS h dX4_send_23
  · replace h := hb2 hc
    refine lv_iconst (v := (-1 : Int32)) hx hb dX4_send_8 (by decide) ?_
    exact k_reti hx hb hr hlocks rfl hR hS h dX4_send_9

def wp_X4_receive (G : k_G) (post : Int32 → k_M → Prop) (p0 : Nat) (p1 : Int32) (p2 : Int32) (M0 : k_M) : Prop :=
  (∃ fs4, M0 p0 = some (kO 5 fs4) ∧ wp_X4_isHelper G (fun r1 M2 =>
  ((r1 = 0 →
  post (-1 : Int32) M2) ∧
  (¬ r1 = 0 →
  (∃ fs8, M2 p0 = some (kO 5 fs8) ∧ wp_X4_isMessage G (fun r5 M6 =>
    ((¬ r5 = 0 →
    (∃ fs9 v10, M6 p0 = some (kO 5 fs9) ∧ fs9[0]? = some (.ref v10) ∧
      (∃ n13 f14, M6 v10 = some (kI G n13 f14) ∧ vp_in (2 : Int32) n13 ∧
      ((¬ (f14 ((2 : Int32)).toNatClampNeg) = (120 : Int32) →
      (∃ fs20, M6 p0 = some (kO 5 fs20) ∧ wp_X4_record G (fun M18 =>
        (∃ fs21 v22, M18 p0 = some (kO 5 fs21) ∧ fs21[0]? = some (.ref v22) ∧
        wp_X4_helperAt G (fun r25 M26 =>
        (∃ fs28 v29, M26 p0 = some (kO 5 fs28) ∧ fs28[0]? = some (.ref v29) ∧
        wp_X4_messageAt G (fun r32 M33 =>
        wp_X4_takeOver G (fun M36 =>
        (∃ fs41, M36 p0 = some (kO 5 fs41) ∧ wp_X4_happens G (fun r38 M39 =>
        post r38 M39) p0 p1 M36)) v22 r25 v29 r32 M33) p2 M26)) p1 M18)) p0 M6)) ∧
      ((f14 ((2 : Int32)).toNatClampNeg) = (120 : Int32) →
      post (-4 : Int32) M6))))) ∧
    (r5 = 0 →
    post (-1 : Int32) M6))) p0 p2 M2)))) p0 p1 M0)
theorem in_X4_receive_X4 : ∀ w ∈ wsX40, w ∈ wsX4_receive := by decide +kernel
set_option maxHeartbeats 4000000 in
set_option maxRecDepth 100000 in
theorem c_X4_receive (l : Launch) (G : k_G) (M0 : k_M) (sz : Nat) (post : Int32 → k_M → Prop) (p0 : Nat) (p1 : Int32) (p2 : Int32) (h : wp_X4_receive G post p0 p1 p2 M0) : Met l yX4_receive wsX4_receive ({ frames := 3, cells := 0, slots := 0, locals := 68 }) (va_Pc [.ref p0, .int p1, .int p2] (kPre G M0 sz)) (va_Qi post (kB G M0 sz) (kA M0 sz)) 0 0 (kA M0 sz) := by
  refine Met.ofW (cc := cX4_receive) (maxL := 3) (ret := (some .int)) (by decide) rfl ?_
  intro p e s m args below meth c s₁ B hml hv
  obtain ⟨rfl, hsz, hR, hE⟩ := hv
  have hx := B.exec
  have hb := B.bytes
  have hr := B.returns
  have hts := atoms_spec (ws := wsX4_receive) B.pre
  have hown : s.vm.findClass RX4 = some m.cls := findClass_of_methodNamed B.named
  have hlocks := B.notSynchronized
  subst hsz
  have hK := hE.1
  have hA : ∀ q, s.heap.size ≤ q → kA M0 s.heap.size q := kA.new
  have hS : va_S (kA M0 s.heap.size) s.heap s.heap [] := va_S.rf
  have hw1 := hts (.fieldLink RX4 7 "ForkedStampsModel" "state" "[I") (by decide +kernel)
  have hl := lv_entry ([.ref p0, .int p1, .int p2]) (n := 3) (Nat.le_of_ble_eq_true rfl)
  rw [lg_entry_eq]
  generalize (lg_sl ([.ref p0, .int p1, .int p2]) ++ List.replicate (3 - (lg_sl ([.ref p0, .int p1, .int p2])).length) Slot.unset).toArray = ls at hl ⊢
  have hl : lv_has ls 3 [(0, .ref p0), (1, .int p1), (2, .int p2)] := hl
  have hR0 := hR
  refine lv_aload_n hx hb dX4_receive_0 rfl (lv_at hl 0 rfl) ?_
  refine lv_iload_n hx hb dX4_receive_1 rfl (lv_at hl 1 rfl) ?_
  obtain ⟨fs4, hm3, h⟩ := h
  refine k_calli0 (va_runV (As := [.int p1]) (rest := []) ⟨hx, hb, hml, hown, hts⟩ (c_X4_isHelper l G _ _ _ p0 p1 h) (cwV 1 hts gX4_receive_X4_isHelper rfl rfl rfl (by decide +kernel) ⟨Nat.le_of_ble_eq_true rfl, Nat.le_of_ble_eq_true rfl⟩) (k_preV (q := (RX4, TX4, 13)) hm3 rfl hR hS hA hE) rfl rfl hl.1 rfl (lv_room (Nat.le_of_ble_eq_true rfl)) dX4_receive_2 ⟨Nat.zero_le _, Nat.zero_le _⟩) hR hS hA (fun r1 M2 H locs h hR hS => ?_)
  obtain ⟨ha, hb2⟩ := h
  refine lv_if_eq (tgt := 16) hx hb dX4_receive_5 (by decide) (fun hc => ?_) (fun hc => ?_)
  · replace h := ha hc
    refine lv_iconst (v := (-1 : Int32)) hx hb dX4_receive_16 (by decide) ?_
    exact k_reti hx hb hr hlocks rfl hR hS h dX4_receive_17
  · replace h := hb2 hc
    refine lv_aload_n hx hb dX4_receive_8 rfl (lv_at hl 0 rfl) ?_
    refine lv_iload_n hx hb dX4_receive_9 rfl (lv_at hl 2 rfl) ?_
    obtain ⟨fs8, hm7, h⟩ := h
    refine k_calli0 (va_runV (As := [.int p2]) (rest := []) ⟨hx, hb, hml, hown, hts⟩ (c_X4_isMessage l G _ _ _ p0 p2 h) (cwV 1 hts gX4_receive_X4_isMessage rfl rfl rfl (by decide +kernel) ⟨Nat.le_of_ble_eq_true rfl, Nat.le_of_ble_eq_true rfl⟩) (k_preV (q := (RX4, TX4, 13)) hm7 rfl hR hS hA hE) rfl rfl hl.1 rfl (lv_room (Nat.le_of_ble_eq_true rfl)) dX4_receive_10 ⟨Nat.zero_le _, Nat.zero_le _⟩) hR hS hA (fun r5 M6 H locs h hR hS => ?_)
    obtain ⟨ha, hb2⟩ := h
    refine lv_if_ne (tgt := 18) hx hb dX4_receive_13 (by decide) (fun hc => ?_) (fun hc => ?_)
    · replace h := ha hc
      refine lv_aload_n hx hb dX4_receive_18 rfl (lv_at hl 0 rfl) ?_
      obtain ⟨fs9, v10, hm11, hv12, h⟩ := h
      refine k_get (ci := 5) (C := RX4) (T := TX4) (N := 13) hx hb hts in_X4_receive_X4 hown hK hR hm11 rfl 0 (by decide) hw1 (fun _ h9 => h9) hv12 dX4_receive_19 ?_
      refine lv_iconst (v := (2 : Int32)) hx hb dX4_receive_22 (by decide) ?_
      obtain ⟨n13, f14, hm15, hv16, h⟩ := h
      refine k_iald hx hb hK hR hm15 hv16 dX4_receive_23 ?_
      refine lv_bipush (v := (120 : Int32)) hx hb dX4_receive_24 (by decide) ?_
      obtain ⟨ha, hb2⟩ := h
      refine lv_icmp_ne (tgt := 32) hx hb dX4_receive_26 (by decide) (fun hc => ?_) (fun hc => ?_)
      · replace h := ha hc
        refine lv_aload_n hx hb dX4_receive_32 rfl (lv_at hl 0 rfl) ?_
        obtain ⟨fs20, hm19, h⟩ := h
        refine k_callv0 (va_runV (As := []) (rest := []) ⟨hx, hb, hml, hown, hts⟩ (c_X4_record l G _ _ _ p0 h) (cwV 0 hts gX4_receive_X4_record rfl rfl rfl (by decide +kernel) ⟨Nat.le_of_ble_eq_true rfl, Nat.le_of_ble_eq_true rfl⟩) (k_preV (q := (RX4, TX4, 13)) hm19 rfl hR hS hA hE) rfl rfl hl.1 rfl (lv_room (Nat.le_of_ble_eq_true rfl)) dX4_receive_33 ⟨Nat.zero_le _, Nat.zero_le _⟩) hR hS hA (fun M18 H locs h hR hS => ?_)
        refine lv_aload_n hx hb dX4_receive_36 rfl (lv_at hl 0 rfl) ?_
        obtain ⟨fs21, v22, hm23, hv24, h⟩ := h
        refine k_get (ci := 5) (C := RX4) (T := TX4) (N := 13) hx hb hts in_X4_receive_X4 hown hK hR hm23 rfl 0 (by decide) hw1 (fun _ h9 => h9) hv24 dX4_receive_37 ?_
        refine lv_iload_n hx hb dX4_receive_40 rfl (lv_at hl 1 rfl) ?_
        refine k_calli0 (va_runS (As := [.int p1]) (rest := [.ref v22]) ⟨hx, hb, hml, hown, hts⟩ (c_X4_helperAt l G _ _ _ p1 h) (va_cwS 1 hts gX4_receive_X4_helperAt rfl rfl rfl (by decide +kernel) ⟨Nat.le_of_ble_eq_true rfl, Nat.le_of_ble_eq_true rfl⟩) (k_preS hR hS hA hE) rfl rfl hl.1 rfl (lv_room (Nat.le_of_ble_eq_true rfl)) dX4_receive_41 ⟨Nat.zero_le _, Nat.zero_le _⟩) hR hS hA (fun r25 M26 H locs h hR hS => ?_)
        refine lv_aload_n hx hb dX4_receive_44 rfl (lv_at hl 0 rfl) ?_
        obtain ⟨fs28, v29, hm30, hv31, h⟩ := h
        refine k_get (ci := 5) (C := RX4) (T := TX4) (N := 13) hx hb hts in_X4_receive_X4 hown hK hR hm30 rfl 0 (by decide) hw1 (fun _ h9 => h9) hv31 dX4_receive_45 ?_
        refine lv_iload_n hx hb dX4_receive_48 rfl (lv_at hl 2 rfl) ?_
        refine k_calli0 (va_runS (As := [.int p2]) (rest := [.ref v29, .int r25, .ref v22]) ⟨hx, hb, hml, hown, hts⟩ (c_X4_messageAt l G _ _ _ p2 h) (va_cwS 1 hts gX4_receive_X4_messageAt rfl rfl rfl (by decide +kernel) ⟨Nat.le_of_ble_eq_true rfl, Nat.le_of_ble_eq_true rfl⟩) (k_preS hR hS hA hE) rfl rfl hl.1 rfl (lv_room (Nat.le_of_ble_eq_true rfl)) dX4_receive_49 ⟨Nat.zero_le _, Nat.zero_le _⟩) hR hS hA (fun r32 M33 H locs h hR hS => ?_)
        refine k_callv0 (va_runS (As := [.ref v22, .int r25, .ref v29, .int r32]) (rest := []) ⟨hx, hb, hml, hown, hts⟩ (c_X4_takeOver l G _ _ _ v22 r25 v29 r32 h) (va_cwS 4 hts gX4_receive_X4_takeOver rfl rfl rfl (by decide +kernel) ⟨Nat.le_of_ble_eq_true rfl, Nat.le_of_ble_eq_true rfl⟩) (k_preS hR hS hA hE) rfl rfl hl.1 rfl (lv_room (Nat.le_of_ble_eq_true rfl)) dX4_receive_52 ⟨Nat.zero_le _, Nat.zero_le _⟩) hR hS hA (fun M36 H locs h hR hS => ?_)
        refine lv_aload_n hx hb dX4_receive_55 rfl (lv_at hl 0 rfl) ?_
        refine lv_iload_n hx hb dX4_receive_56 rfl (lv_at hl 1 rfl) ?_
        obtain ⟨fs41, hm40, h⟩ := h
        refine k_calli0 (va_runV (As := [.int p1]) (rest := []) ⟨hx, hb, hml, hown, hts⟩ (c_X4_happens l G _ _ _ p0 p1 h) (cwV 1 hts gX4_receive_X4_happens rfl rfl rfl (by decide +kernel) ⟨Nat.le_of_ble_eq_true rfl, Nat.le_of_ble_eq_true rfl⟩) (k_preV (q := (RX4, TX4, 13)) hm40 rfl hR hS hA hE) rfl rfl hl.1 rfl (lv_room (Nat.le_of_ble_eq_true rfl)) dX4_receive_57 ⟨Nat.zero_le _, Nat.zero_le _⟩) hR hS hA (fun r38 M39 H locs h hR hS => ?_)
        exact k_reti hx hb hr hlocks rfl hR hS h dX4_receive_60
      · replace h := hb2 hc
        refine lv_bipush (v := (-4 : Int32)) hx hb dX4_receive_29 (by decide) ?_
        exact k_reti hx hb hr hlocks rfl hR hS h dX4_receive_31
    · replace h := hb2 hc
      refine lv_iconst (v := (-1 : Int32)) hx hb dX4_receive_16 (by decide) ?_
      exact k_reti hx hb hr hlocks rfl hR hS h dX4_receive_17

def wp_X4_drop_L19 (G : k_G) (post : Int32 → k_M → Prop) : Nat → Nat → Int32 → k_M → Prop
  | 0 => fun _ _ _ => False
  | n + 1 => fun x0 x2 M =>
  (∃ fs13 v14, M x0 = some (kO 5 fs13) ∧ fs13[0]? = some (.ref v14) ∧
      (∃ n17 f18, M v14 = some (kI G n17 f18) ∧ vp_in (1 : Int32) n17 ∧
      wp_X4_messageAt G (fun r21 M22 =>
      ((r21 ≤ x2 →
      (∃ fs24 v25, M22 x0 = some (kO 5 fs24) ∧ fs24[0]? = some (.ref v25) ∧
        (∃ n28 f29, M22 v25 = some (kI G n28 f29) ∧ vp_in (1 : Int32) n28 ∧
        (∃ n32 f33, M22 v25 = some (kI G n32 f33) ∧ vp_in (1 : Int32) n32 ∧ ∀ M34 : k_M, M34 = va_up M22 v25 (some (kI G n32 (upd f33 ((1 : Int32)).toNatClampNeg ((f29 ((1 : Int32)).toNatClampNeg) - (1 : Int32))))) →
        (∃ fs37 v38, M34 x0 = some (kO 5 fs37) ∧ fs37[0]? = some (.ref v38) ∧
        (∃ n41 f42, M34 v38 = some (kI G n41 f42) ∧ vp_in (1 : Int32) n41 ∧
        post (f42 ((1 : Int32)).toNatClampNeg) M34)))))) ∧
      (¬ r21 ≤ x2 →
      (∃ fs45 v46, M22 x0 = some (kO 5 fs45) ∧ fs45[0]? = some (.ref v46) ∧
        (∃ fs49 v50, M22 x0 = some (kO 5 fs49) ∧ fs49[0]? = some (.ref v50) ∧
        (∃ n53 f54, M22 v50 = some (kI G n53 f54) ∧ vp_in (x2 + (21 : Int32)) n53 ∧
        (∃ n57 f58, M22 v46 = some (kI G n57 f58) ∧ vp_in x2 n57 ∧ ∀ M59 : k_M, M59 = va_up M22 v46 (some (kI G n57 (upd f58 (x2).toNatClampNeg (f54 ((x2 + (21 : Int32))).toNatClampNeg)))) →
        (wp_X4_drop_L19 G post n) x0 (x2 + (1 : Int32)) M59))))))) ((f18 ((1 : Int32)).toNatClampNeg) - (1 : Int32)) M))
def wp_X4_drop (G : k_G) (post : Int32 → k_M → Prop) (p0 : Nat) (p1 : Int32) (M0 : k_M) : Prop :=
  (∃ fs4, M0 p0 = some (kO 5 fs4) ∧ wp_X4_isMessage G (fun r1 M2 =>
  ((¬ r1 = 0 →
  (∃ fs8, M2 p0 = some (kO 5 fs8) ∧ wp_X4_record G (fun M6 =>
    wp_X4_messageAt G (fun r9 M10 =>
    ∃ k12, wp_X4_drop_L19 G post k12 p0 r9 M10) p1 M6) p0 M2)) ∧
  (r1 = 0 →
  post (-1 : Int32) M2))) p0 p1 M0)
theorem in_X4_drop_X4 : ∀ w ∈ wsX40, w ∈ wsX4_drop := by decide +kernel
set_option maxHeartbeats 4000000 in
set_option maxRecDepth 100000 in
theorem c_X4_drop (l : Launch) (G : k_G) (M0 : k_M) (sz : Nat) (post : Int32 → k_M → Prop) (p0 : Nat) (p1 : Int32) (h : wp_X4_drop G post p0 p1 M0) : Met l yX4_drop wsX4_drop ({ frames := 2, cells := 0, slots := 0, locals := 46 }) (va_Pc [.ref p0, .int p1] (kPre G M0 sz)) (va_Qi post (kB G M0 sz) (kA M0 sz)) 0 0 (kA M0 sz) := by
  refine Met.ofW (cc := cX4_drop) (maxL := 3) (ret := (some .int)) (by decide) rfl ?_
  intro p e s m args below meth c s₁ B hml hv
  obtain ⟨rfl, hsz, hR, hE⟩ := hv
  have hx := B.exec
  have hb := B.bytes
  have hr := B.returns
  have hts := atoms_spec (ws := wsX4_drop) B.pre
  have hown : s.vm.findClass RX4 = some m.cls := findClass_of_methodNamed B.named
  have hlocks := B.notSynchronized
  subst hsz
  have hK := hE.1
  have hA : ∀ q, s.heap.size ≤ q → kA M0 s.heap.size q := kA.new
  have hS : va_S (kA M0 s.heap.size) s.heap s.heap [] := va_S.rf
  have hw1 := hts (.fieldLink RX4 7 "ForkedStampsModel" "state" "[I") (by decide +kernel)
  have L19 : ∀ (n : Nat), ∀ (x0 : Nat) (x2 : Int32) (M : k_M) (H : Heap) (locs : List Loc) (ls : Array Slot), wp_X4_drop_L19 G post n x0 x2 M → lv_has ls 3 [(0, .ref x0), (2, .int x2)] → kR G M (kA M0 s.heap.size) H → va_S (kA M0 s.heap.size) s.heap H locs → W p l e (headSpec wsX4_drop ({ frames := 2, cells := 0, slots := 0, locals := 46 })).room s m ([.ref p0, .int p1] : List Value).toArray below meth c H locs 0 0 (MQ below (va_Qi post (kB G M0 s.heap.size) (kA M0 s.heap.size)) ([.ref p0, .int p1] : List Value).toArray s 0 0 (kA M0 s.heap.size)) (F0 m 19 ls []) := by
    intro n
    induction n with
    | zero =>
      intro  x0 x2 M H locs ls h
      exact False.elim h
    | succ n ih =>
      intro  x0 x2 M H locs ls h hl hR hS
      refine lv_iload_n hx hb dX4_drop_19 rfl (lv_at hl 1 rfl) ?_
      refine lv_aload_n hx hb dX4_drop_20 rfl (lv_at hl 0 rfl) ?_
      obtain ⟨fs13, v14, hm15, hv16, h⟩ := h
      refine k_get (ci := 5) (C := RX4) (T := TX4) (N := 13) hx hb hts in_X4_drop_X4 hown hK hR hm15 rfl 0 (by decide) hw1 (fun _ h9 => h9) hv16 dX4_drop_21 ?_
      refine lv_iconst (v := (1 : Int32)) hx hb dX4_drop_24 (by decide) ?_
      obtain ⟨n17, f18, hm19, hv20, h⟩ := h
      refine k_iald hx hb hK hR hm19 hv20 dX4_drop_25 ?_
      refine lv_iconst (v := (1 : Int32)) hx hb dX4_drop_26 (by decide) ?_
      refine lv_isub hx hb dX4_drop_27 ?_
      refine k_calli0 (va_runS (As := [.int ((f18 ((1 : Int32)).toNatClampNeg) - (1 : Int32))]) (rest := [.int x2]) ⟨hx, hb, hml, hown, hts⟩ (c_X4_messageAt l G _ _ _ ((f18 ((1 : Int32)).toNatClampNeg) - (1 : Int32)) h) (va_cwS 1 hts gX4_drop_X4_messageAt rfl rfl rfl (by decide +kernel) ⟨Nat.le_of_ble_eq_true rfl, Nat.le_of_ble_eq_true rfl⟩) (k_preS hR hS hA hE) rfl rfl hl.1 rfl (lv_room (Nat.le_of_ble_eq_true rfl)) dX4_drop_28 ⟨Nat.zero_le _, Nat.zero_le _⟩) hR hS hA (fun r21 M22 H locs h hR hS => ?_)
      obtain ⟨ha, hb2⟩ := h
      refine lv_icmp_ge (tgt := 55) hx hb dX4_drop_31 (by decide) (fun hc => ?_) (fun hc => ?_)
      · replace h := ha hc
        refine lv_aload_n hx hb dX4_drop_55 rfl (lv_at hl 0 rfl) ?_
        obtain ⟨fs24, v25, hm26, hv27, h⟩ := h
        refine k_get (ci := 5) (C := RX4) (T := TX4) (N := 13) hx hb hts in_X4_drop_X4 hown hK hR hm26 rfl 0 (by decide) hw1 (fun _ h9 => h9) hv27 dX4_drop_56 ?_
        refine lv_iconst (v := (1 : Int32)) hx hb dX4_drop_59 (by decide) ?_
        refine lv_dup2_11 hx hb dX4_drop_60 rfl rfl ?_
        obtain ⟨n28, f29, hm30, hv31, h⟩ := h
        refine k_iald hx hb hK hR hm30 hv31 dX4_drop_61 ?_
        refine lv_iconst (v := (1 : Int32)) hx hb dX4_drop_62 (by decide) ?_
        refine lv_isub hx hb dX4_drop_63 ?_
        obtain ⟨n32, f33, hm35, hv36, h⟩ := h
        replace h := h _ rfl
        refine k_iast hx hb hK hR hS hm35 hv36 dX4_drop_64 (fun H locs hR hS => ?_)
        refine lv_aload_n hx hb dX4_drop_65 rfl (lv_at hl 0 rfl) ?_
        obtain ⟨fs37, v38, hm39, hv40, h⟩ := h
        refine k_get (ci := 5) (C := RX4) (T := TX4) (N := 13) hx hb hts in_X4_drop_X4 hown hK hR hm39 rfl 0 (by decide) hw1 (fun _ h9 => h9) hv40 dX4_drop_66 ?_
        refine lv_iconst (v := (1 : Int32)) hx hb dX4_drop_69 (by decide) ?_
        obtain ⟨n41, f42, hm43, hv44, h⟩ := h
        refine k_iald hx hb hK hR hm43 hv44 dX4_drop_70 ?_
        exact k_reti hx hb hr hlocks rfl hR hS h dX4_drop_71
      · replace h := hb2 hc
        refine lv_aload_n hx hb dX4_drop_34 rfl (lv_at hl 0 rfl) ?_
        obtain ⟨fs45, v46, hm47, hv48, h⟩ := h
        refine k_get (ci := 5) (C := RX4) (T := TX4) (N := 13) hx hb hts in_X4_drop_X4 hown hK hR hm47 rfl 0 (by decide) hw1 (fun _ h9 => h9) hv48 dX4_drop_35 ?_
        refine lv_iload_n hx hb dX4_drop_38 rfl (lv_at hl 1 rfl) ?_
        refine lv_aload_n hx hb dX4_drop_39 rfl (lv_at hl 0 rfl) ?_
        obtain ⟨fs49, v50, hm51, hv52, h⟩ := h
        refine k_get (ci := 5) (C := RX4) (T := TX4) (N := 13) hx hb hts in_X4_drop_X4 hown hK hR hm51 rfl 0 (by decide) hw1 (fun _ h9 => h9) hv52 dX4_drop_40 ?_
        refine lv_iload_n hx hb dX4_drop_43 rfl (lv_at hl 1 rfl) ?_
        refine lv_bipush (v := (21 : Int32)) hx hb dX4_drop_44 (by decide) ?_
        refine lv_iadd hx hb dX4_drop_46 ?_
        obtain ⟨n53, f54, hm55, hv56, h⟩ := h
        refine k_iald hx hb hK hR hm55 hv56 dX4_drop_47 ?_
        obtain ⟨n57, f58, hm60, hv61, h⟩ := h
        replace h := h _ rfl
        refine k_iast hx hb hK hR hS hm60 hv61 dX4_drop_48 (fun H locs hR hS => ?_)
        refine lv_iinc (v := (x2 + (1 : Int32))) (lv' := [(2, .int (x2 + (1 : Int32))), (0, .ref x0)]) hx hb dX4_drop_49 hl (k := 1) rfl rfl (by decide) rfl (fun ls hl => ?_)
        refine lv_goto (tgt := 19) hx hb dX4_drop_52 (by decide) ?_
        exact ih _ _ _ _ _ _ h (lv_sub hl [1, 0] rfl) hR hS
  have hl := lv_entry ([.ref p0, .int p1]) (n := 3) (Nat.le_of_ble_eq_true rfl)
  rw [lg_entry_eq]
  generalize (lg_sl ([.ref p0, .int p1]) ++ List.replicate (3 - (lg_sl ([.ref p0, .int p1])).length) Slot.unset).toArray = ls at hl ⊢
  have hl : lv_has ls 3 [(0, .ref p0), (1, .int p1)] := hl
  have hR0 := hR
  refine lv_aload_n hx hb dX4_drop_0 rfl (lv_at hl 0 rfl) ?_
  refine lv_iload_n hx hb dX4_drop_1 rfl (lv_at hl 1 rfl) ?_
  obtain ⟨fs4, hm3, h⟩ := h
  refine k_calli0 (va_runV (As := [.int p1]) (rest := []) ⟨hx, hb, hml, hown, hts⟩ (c_X4_isMessage l G _ _ _ p0 p1 h) (cwV 1 hts gX4_drop_X4_isMessage rfl rfl rfl (by decide +kernel) ⟨Nat.le_of_ble_eq_true rfl, Nat.le_of_ble_eq_true rfl⟩) (k_preV (q := (RX4, TX4, 13)) hm3 rfl hR hS hA hE) rfl rfl hl.1 rfl (lv_room (Nat.le_of_ble_eq_true rfl)) dX4_drop_2 ⟨Nat.zero_le _, Nat.zero_le _⟩) hR hS hA (fun r1 M2 H locs h hR hS => ?_)
  obtain ⟨ha, hb2⟩ := h
  refine lv_if_ne (tgt := 10) hx hb dX4_drop_5 (by decide) (fun hc => ?_) (fun hc => ?_)
  · replace h := ha hc
    refine lv_aload_n hx hb dX4_drop_10 rfl (lv_at hl 0 rfl) ?_
    obtain ⟨fs8, hm7, h⟩ := h
    refine k_callv0 (va_runV (As := []) (rest := []) ⟨hx, hb, hml, hown, hts⟩ (c_X4_record l G _ _ _ p0 h) (cwV 0 hts gX4_drop_X4_record rfl rfl rfl (by decide +kernel) ⟨Nat.le_of_ble_eq_true rfl, Nat.le_of_ble_eq_true rfl⟩) (k_preV (q := (RX4, TX4, 13)) hm7 rfl hR hS hA hE) rfl rfl hl.1 rfl (lv_room (Nat.le_of_ble_eq_true rfl)) dX4_drop_11 ⟨Nat.zero_le _, Nat.zero_le _⟩) hR hS hA (fun M6 H locs h hR hS => ?_)
    refine lv_iload_n hx hb dX4_drop_14 rfl (lv_at hl 1 rfl) ?_
    refine k_calli0 (va_runS (As := [.int p1]) (rest := []) ⟨hx, hb, hml, hown, hts⟩ (c_X4_messageAt l G _ _ _ p1 h) (va_cwS 1 hts gX4_drop_X4_messageAt rfl rfl rfl (by decide +kernel) ⟨Nat.le_of_ble_eq_true rfl, Nat.le_of_ble_eq_true rfl⟩) (k_preS hR hS hA hE) rfl rfl hl.1 rfl (lv_room (Nat.le_of_ble_eq_true rfl)) dX4_drop_15 ⟨Nat.zero_le _, Nat.zero_le _⟩) hR hS hA (fun r9 M10 H locs h hR hS => ?_)
    refine lv_istore_n (lv' := [(2, .int r9), (0, .ref p0), (1, .int p1)]) hx hb dX4_drop_18 rfl hl (by decide) rfl (fun ls hl => ?_)
    obtain ⟨k12, h⟩ := h
    exact L19 k12 _ _ _ _ _ _ h (lv_sub hl [1, 0] rfl) hR hS
  · replace h := hb2 hc
    refine lv_iconst (v := (-1 : Int32)) hx hb dX4_drop_8 (by decide) ?_
    exact k_reti hx hb hr hlocks rfl hR hS h dX4_drop_9

def wp_X4_heights_L10 (G : k_G) (post : Int32 → k_M → Prop) : Nat → Nat → Int32 → Int32 → Int32 → Int32 → Int32 → k_M → Prop
  | 0 => fun _ _ _ _ _ _ _ => False
  | n + 1 => fun x0 x1 x2 x3 x4 x5 M =>
  ((((x1 + (1 : Int32)) + (16 : Int32)) ≤ x5 →
      ((x2 = 0 →
        post x4 M) ∧
        (¬ x2 = 0 →
        post x3 M))) ∧
      (¬ ((x1 + (1 : Int32)) + (16 : Int32)) ≤ x5 →
      (∃ fs2 v3, M x0 = some (kO 5 fs2) ∧ fs2[0]? = some (.ref v3) ∧
        (∃ n6 f7, M v3 = some (kI G n6 f7) ∧ vp_in x5 n6 ∧
        (∃ fs10 v11, M x0 = some (kO 5 fs10) ∧ fs10[0]? = some (.ref v11) ∧
        (∃ n14 f15, M v11 = some (kI G n14 f15) ∧ vp_in x5 n14 ∧
        (((f15 (x5).toNatClampNeg) ≤ x4 →
        (wp_X4_heights_L10 G post n) x0 x1 x2 (x3 + (f7 (x5).toNatClampNeg)) x4 (x5 + (1 : Int32)) M) ∧
        (¬ (f15 (x5).toNatClampNeg) ≤ x4 →
        (∃ fs18 v19, M x0 = some (kO 5 fs18) ∧ fs18[0]? = some (.ref v19) ∧
          (∃ n22 f23, M v19 = some (kI G n22 f23) ∧ vp_in x5 n22 ∧
          (wp_X4_heights_L10 G post n) x0 x1 x2 (x3 + (f7 (x5).toNatClampNeg)) (f23 (x5).toNatClampNeg) (x5 + (1 : Int32)) M))))))))))
def wp_X4_heights (G : k_G) (post : Int32 → k_M → Prop) (p0 : Nat) (p1 : Int32) (p2 : Int32) (M0 : k_M) : Prop :=
  ∃ k1, wp_X4_heights_L10 G post k1 p0 p1 p2 (0 : Int32) (0 : Int32) (p1 + (1 : Int32)) M0
theorem in_X4_heights_X4 : ∀ w ∈ wsX40, w ∈ wsX4_heights := by decide +kernel
set_option maxHeartbeats 4000000 in
set_option maxRecDepth 100000 in
theorem c_X4_heights (l : Launch) (G : k_G) (M0 : k_M) (sz : Nat) (post : Int32 → k_M → Prop) (p0 : Nat) (p1 : Int32) (p2 : Int32) (h : wp_X4_heights G post p0 p1 p2 M0) : Met l yX4_heights wsX4_heights ({ frames := 0, cells := 0, slots := 0, locals := 0 }) (va_Pc [.ref p0, .int p1, .int p2] (kPre G M0 sz)) (va_Qi post (kB G M0 sz) (kA M0 sz)) 0 0 (kA M0 sz) := by
  refine Met.ofW (cc := cX4_heights) (maxL := 6) (ret := (some .int)) (by decide) rfl ?_
  intro p e s m args below meth c s₁ B hml hv
  obtain ⟨rfl, hsz, hR, hE⟩ := hv
  have hx := B.exec
  have hb := B.bytes
  have hr := B.returns
  have hts := atoms_spec (ws := wsX4_heights) B.pre
  have hown : s.vm.findClass RX4 = some m.cls := findClass_of_methodNamed B.named
  have hlocks := B.notSynchronized
  subst hsz
  have hK := hE.1
  have hA : ∀ q, s.heap.size ≤ q → kA M0 s.heap.size q := kA.new
  have hS : va_S (kA M0 s.heap.size) s.heap s.heap [] := va_S.rf
  have hw1 := hts (.fieldLink RX4 7 "ForkedStampsModel" "state" "[I") (by decide +kernel)
  have L10 : ∀ (n : Nat), ∀ (x0 : Nat) (x1 : Int32) (x2 : Int32) (x3 : Int32) (x4 : Int32) (x5 : Int32) (M : k_M) (H : Heap) (locs : List Loc) (ls : Array Slot), wp_X4_heights_L10 G post n x0 x1 x2 x3 x4 x5 M → lv_has ls 6 [(0, .ref x0), (1, .int x1), (2, .int x2), (3, .int x3), (4, .int x4), (5, .int x5)] → kR G M (kA M0 s.heap.size) H → va_S (kA M0 s.heap.size) s.heap H locs → W p l e (headSpec wsX4_heights ({ frames := 0, cells := 0, slots := 0, locals := 0 })).room s m ([.ref p0, .int p1, .int p2] : List Value).toArray below meth c H locs 0 0 (MQ below (va_Qi post (kB G M0 s.heap.size) (kA M0 s.heap.size)) ([.ref p0, .int p1, .int p2] : List Value).toArray s 0 0 (kA M0 s.heap.size)) (F0 m 10 ls []) := by
    intro n
    induction n with
    | zero =>
      intro  x0 x1 x2 x3 x4 x5 M H locs ls h
      exact False.elim h
    | succ n ih =>
      intro  x0 x1 x2 x3 x4 x5 M H locs ls h hl hR hS
      refine lv_iload hx hb dX4_heights_10 (lv_at hl 5 rfl) ?_
      refine lv_iload_n hx hb dX4_heights_12 rfl (lv_at hl 1 rfl) ?_
      refine lv_iconst (v := (1 : Int32)) hx hb dX4_heights_13 (by decide) ?_
      refine lv_iadd hx hb dX4_heights_14 ?_
      refine lv_bipush (v := (16 : Int32)) hx hb dX4_heights_15 (by decide) ?_
      refine lv_iadd hx hb dX4_heights_17 ?_
      obtain ⟨ha, hb2⟩ := h
      refine lv_icmp_ge (tgt := 63) hx hb dX4_heights_18 (by decide) (fun hc => ?_) (fun hc => ?_)
      · replace h := ha hc
        refine lv_iload_n hx hb dX4_heights_63 rfl (lv_at hl 2 rfl) ?_
        obtain ⟨ha, hb2⟩ := h
        refine lv_if_eq (tgt := 71) hx hb dX4_heights_64 (by decide) (fun hc => ?_) (fun hc => ?_)
        · replace h := ha hc
          refine lv_iload hx hb dX4_heights_71 (lv_at hl 4 rfl) ?_
          exact k_reti hx hb hr hlocks rfl hR hS h dX4_heights_73
        · replace h := hb2 hc
          refine lv_iload_n hx hb dX4_heights_67 rfl (lv_at hl 3 rfl) ?_
          refine lv_goto (tgt := 73) hx hb dX4_heights_68 (by decide) ?_
          exact k_reti hx hb hr hlocks rfl hR hS h dX4_heights_73
      · replace h := hb2 hc
        refine lv_iload_n hx hb dX4_heights_21 rfl (lv_at hl 3 rfl) ?_
        refine lv_aload_n hx hb dX4_heights_22 rfl (lv_at hl 0 rfl) ?_
        obtain ⟨fs2, v3, hm4, hv5, h⟩ := h
        refine k_get (ci := 5) (C := RX4) (T := TX4) (N := 13) hx hb hts in_X4_heights_X4 hown hK hR hm4 rfl 0 (by decide) hw1 (fun _ h9 => h9) hv5 dX4_heights_23 ?_
        refine lv_iload hx hb dX4_heights_26 (lv_at hl 5 rfl) ?_
        obtain ⟨n6, f7, hm8, hv9, h⟩ := h
        refine k_iald hx hb hK hR hm8 hv9 dX4_heights_28 ?_
        refine lv_iadd hx hb dX4_heights_29 ?_
        refine lv_istore_n (lv' := [(3, .int (x3 + (f7 (x5).toNatClampNeg))), (0, .ref x0), (1, .int x1), (2, .int x2), (4, .int x4), (5, .int x5)]) hx hb dX4_heights_30 rfl hl (by decide) rfl (fun ls hl => ?_)
        refine lv_aload_n hx hb dX4_heights_31 rfl (lv_at hl 1 rfl) ?_
        obtain ⟨fs10, v11, hm12, hv13, h⟩ := h
        refine k_get (ci := 5) (C := RX4) (T := TX4) (N := 13) hx hb hts in_X4_heights_X4 hown hK hR hm12 rfl 0 (by decide) hw1 (fun _ h9 => h9) hv13 dX4_heights_32 ?_
        refine lv_iload hx hb dX4_heights_35 (lv_at hl 5 rfl) ?_
        obtain ⟨n14, f15, hm16, hv17, h⟩ := h
        refine k_iald hx hb hK hR hm16 hv17 dX4_heights_37 ?_
        refine lv_iload hx hb dX4_heights_38 (lv_at hl 4 rfl) ?_
        obtain ⟨ha, hb2⟩ := h
        refine lv_icmp_le (tgt := 53) hx hb dX4_heights_40 (by decide) (fun hc => ?_) (fun hc => ?_)
        · replace h := ha hc
          refine lv_iload hx hb dX4_heights_53 (lv_at hl 4 rfl) ?_
          refine lv_istore (lv' := [(4, .int x4), (3, .int (x3 + (f7 (x5).toNatClampNeg))), (0, .ref x0), (1, .int x1), (2, .int x2), (5, .int x5)]) hx hb dX4_heights_55 hl (by decide) rfl (fun ls hl => ?_)
          refine lv_iinc (v := (x5 + (1 : Int32))) (lv' := [(5, .int (x5 + (1 : Int32))), (4, .int x4), (3, .int (x3 + (f7 (x5).toNatClampNeg))), (0, .ref x0), (1, .int x1), (2, .int x2)]) hx hb dX4_heights_57 hl (k := 5) rfl rfl (by decide) rfl (fun ls hl => ?_)
          refine lv_goto (tgt := 10) hx hb dX4_heights_60 (by decide) ?_
          exact ih _ _ _ _ _ _ _ _ _ _ h (lv_sub hl [3, 4, 5, 2, 1, 0] rfl) hR hS
        · replace h := hb2 hc
          refine lv_aload_n hx hb dX4_heights_43 rfl (lv_at hl 1 rfl) ?_
          obtain ⟨fs18, v19, hm20, hv21, h⟩ := h
          refine k_get (ci := 5) (C := RX4) (T := TX4) (N := 13) hx hb hts in_X4_heights_X4 hown hK hR hm20 rfl 0 (by decide) hw1 (fun _ h9 => h9) hv21 dX4_heights_44 ?_
          refine lv_iload hx hb dX4_heights_47 (lv_at hl 5 rfl) ?_
          obtain ⟨n22, f23, hm24, hv25, h⟩ := h
          refine k_iald hx hb hK hR hm24 hv25 dX4_heights_49 ?_
          refine lv_goto (tgt := 55) hx hb dX4_heights_50 (by decide) ?_
          refine lv_istore (lv' := [(4, .int (f23 (x5).toNatClampNeg)), (3, .int (x3 + (f7 (x5).toNatClampNeg))), (0, .ref x0), (1, .int x1), (2, .int x2), (5, .int x5)]) hx hb dX4_heights_55 hl (by decide) rfl (fun ls hl => ?_)
          refine lv_iinc (v := (x5 + (1 : Int32))) (lv' := [(5, .int (x5 + (1 : Int32))), (4, .int (f23 (x5).toNatClampNeg)), (3, .int (x3 + (f7 (x5).toNatClampNeg))), (0, .ref x0), (1, .int x1), (2, .int x2)]) hx hb dX4_heights_57 hl (k := 5) rfl rfl (by decide) rfl (fun ls hl => ?_)
          refine lv_goto (tgt := 10) hx hb dX4_heights_60 (by decide) ?_
          exact ih _ _ _ _ _ _ _ _ _ _ h (lv_sub hl [3, 4, 5, 2, 1, 0] rfl) hR hS
  have hl := lv_entry ([.ref p0, .int p1, .int p2]) (n := 6) (Nat.le_of_ble_eq_true rfl)
  rw [lg_entry_eq]
  generalize (lg_sl ([.ref p0, .int p1, .int p2]) ++ List.replicate (6 - (lg_sl ([.ref p0, .int p1, .int p2])).length) Slot.unset).toArray = ls at hl ⊢
  have hl : lv_has ls 6 [(0, .ref p0), (1, .int p1), (2, .int p2)] := hl
  have hR0 := hR
  refine lv_iconst (v := (0 : Int32)) hx hb dX4_heights_0 (by decide) ?_
  refine lv_istore_n (lv' := [(3, .int (0 : Int32)), (0, .ref p0), (1, .int p1), (2, .int p2)]) hx hb dX4_heights_1 rfl hl (by decide) rfl (fun ls hl => ?_)
  refine lv_iconst (v := (0 : Int32)) hx hb dX4_heights_2 (by decide) ?_
  refine lv_istore (lv' := [(4, .int (0 : Int32)), (3, .int (0 : Int32)), (0, .ref p0), (1, .int p1), (2, .int p2)]) hx hb dX4_heights_3 hl (by decide) rfl (fun ls hl => ?_)
  refine lv_iload_n hx hb dX4_heights_5 rfl (lv_at hl 3 rfl) ?_
  refine lv_iconst (v := (1 : Int32)) hx hb dX4_heights_6 (by decide) ?_
  refine lv_iadd hx hb dX4_heights_7 ?_
  refine lv_istore (lv' := [(5, .int (p1 + (1 : Int32))), (4, .int (0 : Int32)), (3, .int (0 : Int32)), (0, .ref p0), (1, .int p1), (2, .int p2)]) hx hb dX4_heights_8 hl (by decide) rfl (fun ls hl => ?_)
  obtain ⟨k1, h⟩ := h
  exact L10 k1 _ _ _ _ _ _ _ _ _ _ h (lv_sub hl [3, 4, 5, 2, 1, 0] rfl) hR hS

def wp_X4_isKnown (G : k_G) (post : Int32 → k_M → Prop) (p0 : Nat) (p1 : Int32) (p2 : Int32) (M0 : k_M) : Prop :=
  (∃ fs1 v2, M0 p0 = some (kO 5 fs1) ∧ fs1[0]? = some (.ref v2) ∧
  (∃ n5 f6, M0 v2 = some (kI G n5 f6) ∧ vp_in ((p1 + (17 : Int32)) + (p2 / (30 : Int32))) n5 ∧
  ((¬ (((f6 (((p1 + (17 : Int32)) + (p2 / (30 : Int32)))).toNatClampNeg) >>> ((p2 - p2 / (30 : Int32) * (30 : Int32)) &&& 31)) &&& (1 : Int32)) = (1 : Int32) →
  post (0 : Int32) M0) ∧
  ((((f6 (((p1 + (17 : Int32)) + (p2 / (30 : Int32)))).toNatClampNeg) >>> ((p2 - p2 / (30 : Int32) * (30 : Int32)) &&& 31)) &&& (1 : Int32)) = (1 : Int32) →
  post (1 : Int32) M0))))
theorem in_X4_isKnown_X4 : ∀ w ∈ wsX40, w ∈ wsX4_isKnown := by decide +kernel
set_option maxHeartbeats 4000000 in
set_option maxRecDepth 100000 in
theorem c_X4_isKnown (l : Launch) (G : k_G) (M0 : k_M) (sz : Nat) (post : Int32 → k_M → Prop) (p0 : Nat) (p1 : Int32) (p2 : Int32) (h : wp_X4_isKnown G post p0 p1 p2 M0) : Met l yX4_isKnown wsX4_isKnown ({ frames := 0, cells := 0, slots := 0, locals := 0 }) (va_Pc [.ref p0, .int p1, .int p2] (kPre G M0 sz)) (va_Qi post (kB G M0 sz) (kA M0 sz)) 0 0 (kA M0 sz) := by
  refine Met.ofW (cc := cX4_isKnown) (maxL := 3) (ret := (some .boolean)) (by decide) rfl ?_
  intro p e s m args below meth c s₁ B hml hv
  obtain ⟨rfl, hsz, hR, hE⟩ := hv
  have hx := B.exec
  have hb := B.bytes
  have hr := B.returns
  have hts := atoms_spec (ws := wsX4_isKnown) B.pre
  have hown : s.vm.findClass RX4 = some m.cls := findClass_of_methodNamed B.named
  have hlocks := B.notSynchronized
  subst hsz
  have hK := hE.1
  have hA : ∀ q, s.heap.size ≤ q → kA M0 s.heap.size q := kA.new
  have hS : va_S (kA M0 s.heap.size) s.heap s.heap [] := va_S.rf
  have hw1 := hts (.fieldLink RX4 7 "ForkedStampsModel" "state" "[I") (by decide +kernel)
  have hl := lv_entry ([.ref p0, .int p1, .int p2]) (n := 3) (Nat.le_of_ble_eq_true rfl)
  rw [lg_entry_eq]
  generalize (lg_sl ([.ref p0, .int p1, .int p2]) ++ List.replicate (3 - (lg_sl ([.ref p0, .int p1, .int p2])).length) Slot.unset).toArray = ls at hl ⊢
  have hl : lv_has ls 3 [(0, .ref p0), (1, .int p1), (2, .int p2)] := hl
  have hR0 := hR
  refine lv_aload_n hx hb dX4_isKnown_0 rfl (lv_at hl 0 rfl) ?_
  obtain ⟨fs1, v2, hm3, hv4, h⟩ := h
  refine k_get (ci := 5) (C := RX4) (T := TX4) (N := 13) hx hb hts in_X4_isKnown_X4 hown hK hR hm3 rfl 0 (by decide) hw1 (fun _ h9 => h9) hv4 dX4_isKnown_1 ?_
  refine lv_iload_n hx hb dX4_isKnown_4 rfl (lv_at hl 1 rfl) ?_
  refine lv_bipush (v := (17 : Int32)) hx hb dX4_isKnown_5 (by decide) ?_
  refine lv_iadd hx hb dX4_isKnown_7 ?_
  refine lv_iload_n hx hb dX4_isKnown_8 rfl (lv_at hl 2 rfl) ?_
  refine lv_bipush (v := (30 : Int32)) hx hb dX4_isKnown_9 (by decide) ?_
  refine lv_idiv hx hb dX4_isKnown_11 (by decide) ?_
  refine lv_iadd hx hb dX4_isKnown_12 ?_
  obtain ⟨n5, f6, hm7, hv8, h⟩ := h
  refine k_iald hx hb hK hR hm7 hv8 dX4_isKnown_13 ?_
  refine lv_iload_n hx hb dX4_isKnown_14 rfl (lv_at hl 2 rfl) ?_
  refine lv_bipush (v := (30 : Int32)) hx hb dX4_isKnown_15 (by decide) ?_
  refine lv_irem hx hb dX4_isKnown_17 (by decide) ?_
  refine lv_ishr hx hb dX4_isKnown_18 ?_
  refine lv_iconst (v := (1 : Int32)) hx hb dX4_isKnown_19 (by decide) ?_
  refine lv_iand hx hb dX4_isKnown_20 ?_
  refine lv_iconst (v := (1 : Int32)) hx hb dX4_isKnown_21 (by decide) ?_
  obtain ⟨ha, hb2⟩ := h
  refine lv_icmp_ne (tgt := 29) hx hb dX4_isKnown_22 (by decide) (fun hc => ?_) (fun hc => ?_)
  · replace h := ha hc
    refine lv_iconst (v := (0 : Int32)) hx hb dX4_isKnown_29 (by decide) ?_
    exact k_reti hx hb hr hlocks (by decide) hR hS h dX4_isKnown_30
  · replace h := hb2 hc
    refine lv_iconst (v := (1 : Int32)) hx hb dX4_isKnown_25 (by decide) ?_
    refine lv_goto (tgt := 30) hx hb dX4_isKnown_26 (by decide) ?_
    exact k_reti hx hb hr hlocks (by decide) hR hS h dX4_isKnown_30

def wp_X4_latestOf_L5 (G : k_G) (post : Int32 → k_M → Prop) : Nat → Nat → Int32 → Int32 → Int32 → k_M → Prop
  | 0 => fun _ _ _ _ _ => False
  | n + 1 => fun x0 x1 x2 x3 M =>
  (∃ fs2 v3, M x0 = some (kO 5 fs2) ∧ fs2[0]? = some (.ref v3) ∧
      (∃ n6 f7, M v3 = some (kI G n6 f7) ∧ vp_in (2 : Int32) n6 ∧
      (((f7 ((2 : Int32)).toNatClampNeg) ≤ x3 →
      post x2 M) ∧
      (¬ (f7 ((2 : Int32)).toNatClampNeg) ≤ x3 →
      (∃ fs13, M x0 = some (kO 5 fs13) ∧ wp_X4_isKnown G (fun r10 M11 =>
        ((r10 = 0 →
        (wp_X4_latestOf_L5 G post n) x0 x1 x2 (x3 + (1 : Int32)) M11) ∧
        (¬ r10 = 0 →
        (wp_X4_latestOf_L5 G post n) x0 x1 x3 (x3 + (1 : Int32)) M11))) x0 x1 x3 M)))))
def wp_X4_latestOf (G : k_G) (post : Int32 → k_M → Prop) (p0 : Nat) (p1 : Int32) (M0 : k_M) : Prop :=
  ∃ k1, wp_X4_latestOf_L5 G post k1 p0 p1 (-6 : Int32) (0 : Int32) M0
theorem in_X4_latestOf_X4 : ∀ w ∈ wsX40, w ∈ wsX4_latestOf := by decide +kernel
set_option maxHeartbeats 4000000 in
set_option maxRecDepth 100000 in
theorem c_X4_latestOf (l : Launch) (G : k_G) (M0 : k_M) (sz : Nat) (post : Int32 → k_M → Prop) (p0 : Nat) (p1 : Int32) (h : wp_X4_latestOf G post p0 p1 M0) : Met l yX4_latestOf wsX4_latestOf ({ frames := 1, cells := 0, slots := 0, locals := 22 }) (va_Pc [.ref p0, .int p1] (kPre G M0 sz)) (va_Qi post (kB G M0 sz) (kA M0 sz)) 0 0 (kA M0 sz) := by
  refine Met.ofW (cc := cX4_latestOf) (maxL := 4) (ret := (some .int)) (by decide) rfl ?_
  intro p e s m args below meth c s₁ B hml hv
  obtain ⟨rfl, hsz, hR, hE⟩ := hv
  have hx := B.exec
  have hb := B.bytes
  have hr := B.returns
  have hts := atoms_spec (ws := wsX4_latestOf) B.pre
  have hown : s.vm.findClass RX4 = some m.cls := findClass_of_methodNamed B.named
  have hlocks := B.notSynchronized
  subst hsz
  have hK := hE.1
  have hA : ∀ q, s.heap.size ≤ q → kA M0 s.heap.size q := kA.new
  have hS : va_S (kA M0 s.heap.size) s.heap s.heap [] := va_S.rf
  have hw1 := hts (.fieldLink RX4 7 "ForkedStampsModel" "state" "[I") (by decide +kernel)
  have L5 : ∀ (n : Nat), ∀ (x0 : Nat) (x1 : Int32) (x2 : Int32) (x3 : Int32) (M : k_M) (H : Heap) (locs : List Loc) (ls : Array Slot), wp_X4_latestOf_L5 G post n x0 x1 x2 x3 M → lv_has ls 4 [(0, .ref x0), (1, .int x1), (2, .int x2), (3, .int x3)] → kR G M (kA M0 s.heap.size) H → va_S (kA M0 s.heap.size) s.heap H locs → W p l e (headSpec wsX4_latestOf ({ frames := 1, cells := 0, slots := 0, locals := 22 })).room s m ([.ref p0, .int p1] : List Value).toArray below meth c H locs 0 0 (MQ below (va_Qi post (kB G M0 s.heap.size) (kA M0 s.heap.size)) ([.ref p0, .int p1] : List Value).toArray s 0 0 (kA M0 s.heap.size)) (F0 m 5 ls []) := by
    intro n
    induction n with
    | zero =>
      intro  x0 x1 x2 x3 M H locs ls h
      exact False.elim h
    | succ n ih =>
      intro  x0 x1 x2 x3 M H locs ls h hl hR hS
      refine lv_iload_n hx hb dX4_latestOf_5 rfl (lv_at hl 3 rfl) ?_
      refine lv_aload_n hx hb dX4_latestOf_6 rfl (lv_at hl 0 rfl) ?_
      obtain ⟨fs2, v3, hm4, hv5, h⟩ := h
      refine k_get (ci := 5) (C := RX4) (T := TX4) (N := 13) hx hb hts in_X4_latestOf_X4 hown hK hR hm4 rfl 0 (by decide) hw1 (fun _ h9 => h9) hv5 dX4_latestOf_7 ?_
      refine lv_iconst (v := (2 : Int32)) hx hb dX4_latestOf_10 (by decide) ?_
      obtain ⟨n6, f7, hm8, hv9, h⟩ := h
      refine k_iald hx hb hK hR hm8 hv9 dX4_latestOf_11 ?_
      obtain ⟨ha, hb2⟩ := h
      refine lv_icmp_ge (tgt := 36) hx hb dX4_latestOf_12 (by decide) (fun hc => ?_) (fun hc => ?_)
      · replace h := ha hc
        refine lv_iload_n hx hb dX4_latestOf_36 rfl (lv_at hl 2 rfl) ?_
        exact k_reti hx hb hr hlocks rfl hR hS h dX4_latestOf_37
      · replace h := hb2 hc
        refine lv_aload_n hx hb dX4_latestOf_15 rfl (lv_at hl 0 rfl) ?_
        refine lv_iload_n hx hb dX4_latestOf_16 rfl (lv_at hl 1 rfl) ?_
        refine lv_iload_n hx hb dX4_latestOf_17 rfl (lv_at hl 3 rfl) ?_
        obtain ⟨fs13, hm12, h⟩ := h
        refine k_calli0 (va_runV (As := [.int x1, .int x3]) (rest := []) ⟨hx, hb, hml, hown, hts⟩ (c_X4_isKnown l G _ _ _ x0 x1 x3 h) (cwV 2 hts gX4_latestOf_X4_isKnown rfl rfl rfl (by decide +kernel) ⟨Nat.le_of_ble_eq_true rfl, Nat.le_of_ble_eq_true rfl⟩) (k_preV (q := (RX4, TX4, 13)) hm12 rfl hR hS hA hE) rfl rfl hl.1 rfl (lv_room (Nat.le_of_ble_eq_true rfl)) dX4_latestOf_18 ⟨Nat.zero_le _, Nat.zero_le _⟩) hR hS hA (fun r10 M11 H locs h hR hS => ?_)
        obtain ⟨ha, hb2⟩ := h
        refine lv_if_eq (tgt := 28) hx hb dX4_latestOf_21 (by decide) (fun hc => ?_) (fun hc => ?_)
        · replace h := ha hc
          refine lv_iload_n hx hb dX4_latestOf_28 rfl (lv_at hl 2 rfl) ?_
          refine lv_istore_n (lv' := [(2, .int x2), (0, .ref x0), (1, .int x1), (3, .int x3)]) hx hb dX4_latestOf_29 rfl hl (by decide) rfl (fun ls hl => ?_)
          refine lv_iinc (v := (x3 + (1 : Int32))) (lv' := [(3, .int (x3 + (1 : Int32))), (2, .int x2), (0, .ref x0), (1, .int x1)]) hx hb dX4_latestOf_30 hl (k := 3) rfl rfl (by decide) rfl (fun ls hl => ?_)
          refine lv_goto (tgt := 5) hx hb dX4_latestOf_33 (by decide) ?_
          exact ih _ _ _ _ _ _ _ _ h (lv_sub hl [2, 3, 1, 0] rfl) hR hS
        · replace h := hb2 hc
          refine lv_iload_n hx hb dX4_latestOf_24 rfl (lv_at hl 3 rfl) ?_
          refine lv_goto (tgt := 29) hx hb dX4_latestOf_25 (by decide) ?_
          refine lv_istore_n (lv' := [(2, .int x3), (0, .ref x0), (1, .int x1), (3, .int x3)]) hx hb dX4_latestOf_29 rfl hl (by decide) rfl (fun ls hl => ?_)
          refine lv_iinc (v := (x3 + (1 : Int32))) (lv' := [(3, .int (x3 + (1 : Int32))), (2, .int x3), (0, .ref x0), (1, .int x1)]) hx hb dX4_latestOf_30 hl (k := 3) rfl rfl (by decide) rfl (fun ls hl => ?_)
          refine lv_goto (tgt := 5) hx hb dX4_latestOf_33 (by decide) ?_
          exact ih _ _ _ _ _ _ _ _ h (lv_sub hl [2, 3, 1, 0] rfl) hR hS
  have hl := lv_entry ([.ref p0, .int p1]) (n := 4) (Nat.le_of_ble_eq_true rfl)
  rw [lg_entry_eq]
  generalize (lg_sl ([.ref p0, .int p1]) ++ List.replicate (4 - (lg_sl ([.ref p0, .int p1])).length) Slot.unset).toArray = ls at hl ⊢
  have hl : lv_has ls 4 [(0, .ref p0), (1, .int p1)] := hl
  have hR0 := hR
  refine lv_bipush (v := (-6 : Int32)) hx hb dX4_latestOf_0 (by decide) ?_
  refine lv_istore_n (lv' := [(2, .int (-6 : Int32)), (0, .ref p0), (1, .int p1)]) hx hb dX4_latestOf_2 rfl hl (by decide) rfl (fun ls hl => ?_)
  refine lv_iconst (v := (0 : Int32)) hx hb dX4_latestOf_3 (by decide) ?_
  refine lv_istore_n (lv' := [(3, .int (0 : Int32)), (2, .int (-6 : Int32)), (0, .ref p0), (1, .int p1)]) hx hb dX4_latestOf_4 rfl hl (by decide) rfl (fun ls hl => ?_)
  obtain ⟨k1, h⟩ := h
  exact L5 k1 _ _ _ _ _ _ _ _ h (lv_sub hl [2, 3, 1, 0] rfl) hR hS

def wp_X4_of (G : k_G) (post : Int32 → k_M → Prop) (p0 : Nat) (p1 : Int32) (p2 : Int32) (M0 : k_M) : Prop :=
  (∃ fs4, M0 p0 = some (kO 5 fs4) ∧ wp_X4_isHelper G (fun r1 M2 =>
  ((¬ r1 = 0 →
  wp_X4_helperAt G (fun r5 M6 =>
    (((p2).toInt = 0 →
    (∃ fs8 v9, M6 p0 = some (kO 5 fs8) ∧ fs8[0]? = some (.ref v9) ∧
      (∃ n12 f13, M6 v9 = some (kI G n12 f13) ∧ vp_in (r5 + (0 : Int32)) n12 ∧
      post (f13 ((r5 + (0 : Int32))).toNatClampNeg) M6))) ∧
    ((p2).toInt = 1 →
    (∃ fs16 v17, M6 p0 = some (kO 5 fs16) ∧ fs16[0]? = some (.ref v17) ∧
      (∃ n20 f21, M6 v17 = some (kI G n20 f21) ∧ vp_in (r5 + (0 : Int32)) n20 ∧
      wp_X4_bits G (fun r24 M25 =>
      post r24 M25) (f21 ((r5 + (0 : Int32))).toNatClampNeg) M6))) ∧
    ((p2).toInt = 2 →
    (∃ fs30, M6 p0 = some (kO 5 fs30) ∧ wp_X4_heights G (fun r27 M28 =>
      post r27 M28) p0 r5 (0 : Int32) M6)) ∧
    ((p2).toInt = 3 →
    (∃ fs34, M6 p0 = some (kO 5 fs34) ∧ wp_X4_heights G (fun r31 M32 =>
      post r31 M32) p0 r5 (1 : Int32) M6)) ∧
    ((p2).toInt = 4 →
    (∃ fs35 v36, M6 p0 = some (kO 5 fs35) ∧ fs35[0]? = some (.ref v36) ∧
      wp_X4_knownMany G (fun r39 M40 =>
      post r39 M40) v36 r5 M6)) ∧
    ((p2).toInt = 5 →
    (∃ fs45, M6 p0 = some (kO 5 fs45) ∧ wp_X4_latestOf G (fun r42 M43 =>
      post r42 M43) p0 r5 M6)) ∧
    ((p2).toInt = 6 →
    (∃ fs46 v47, M6 p0 = some (kO 5 fs46) ∧ fs46[0]? = some (.ref v47) ∧
      wp_X4_knots G (fun r50 M51 =>
      post r50 M51) v47 r5 M6)) ∧
    ((p2).toInt = 7 →
    (∃ fs56, M6 p0 = some (kO 5 fs56) ∧ wp_X4_print G (fun M54 =>
      (∃ fs57 v58, M54 p0 = some (kO 5 fs57) ∧ fs57[12]? = some (.int v58) ∧
      post v58 M54)) p0 r5 M6)) ∧
    ((p2).toInt < 0 ∨ 7 < (p2).toInt →
    post (-2 : Int32) M6))) p1 M2) ∧
  (r1 = 0 →
  post (-1 : Int32) M2))) p0 p1 M0)
theorem in_X4_of_X4 : ∀ w ∈ wsX40, w ∈ wsX4_of := by decide +kernel
set_option maxHeartbeats 4000000 in
set_option maxRecDepth 100000 in
theorem c_X4_of (l : Launch) (G : k_G) (M0 : k_M) (sz : Nat) (post : Int32 → k_M → Prop) (p0 : Nat) (p1 : Int32) (p2 : Int32) (h : wp_X4_of G post p0 p1 p2 M0) : Met l yX4_of wsX4_of ({ frames := 3, cells := 0, slots := 0, locals := 66 }) (va_Pc [.ref p0, .int p1, .int p2] (kPre G M0 sz)) (va_Qi post (kB G M0 sz) (kA M0 sz)) 0 0 (kA M0 sz) := by
  refine Met.ofW (cc := cX4_of) (maxL := 4) (ret := (some .int)) (by decide) rfl ?_
  intro p e s m args below meth c s₁ B hml hv
  obtain ⟨rfl, hsz, hR, hE⟩ := hv
  have hx := B.exec
  have hb := B.bytes
  have hr := B.returns
  have hts := atoms_spec (ws := wsX4_of) B.pre
  have hown : s.vm.findClass RX4 = some m.cls := findClass_of_methodNamed B.named
  have hlocks := B.notSynchronized
  subst hsz
  have hK := hE.1
  have hA : ∀ q, s.heap.size ≤ q → kA M0 s.heap.size q := kA.new
  have hS : va_S (kA M0 s.heap.size) s.heap s.heap [] := va_S.rf
  have hw1 := hts (.fieldLink RX4 7 "ForkedStampsModel" "state" "[I") (by decide +kernel)
  have hw2 := hts (.fieldLink RX4 78 "ForkedStampsModel" "textLength" "I") (by decide +kernel)
  have hl := lv_entry ([.ref p0, .int p1, .int p2]) (n := 4) (Nat.le_of_ble_eq_true rfl)
  rw [lg_entry_eq]
  generalize (lg_sl ([.ref p0, .int p1, .int p2]) ++ List.replicate (4 - (lg_sl ([.ref p0, .int p1, .int p2])).length) Slot.unset).toArray = ls at hl ⊢
  have hl : lv_has ls 4 [(0, .ref p0), (1, .int p1), (2, .int p2)] := hl
  have hR0 := hR
  refine lv_aload_n hx hb dX4_of_0 rfl (lv_at hl 0 rfl) ?_
  refine lv_iload_n hx hb dX4_of_1 rfl (lv_at hl 1 rfl) ?_
  obtain ⟨fs4, hm3, h⟩ := h
  refine k_calli0 (va_runV (As := [.int p1]) (rest := []) ⟨hx, hb, hml, hown, hts⟩ (c_X4_isHelper l G _ _ _ p0 p1 h) (cwV 1 hts gX4_of_X4_isHelper rfl rfl rfl (by decide +kernel) ⟨Nat.le_of_ble_eq_true rfl, Nat.le_of_ble_eq_true rfl⟩) (k_preV (q := (RX4, TX4, 13)) hm3 rfl hR hS hA hE) rfl rfl hl.1 rfl (lv_room (Nat.le_of_ble_eq_true rfl)) dX4_of_2 ⟨Nat.zero_le _, Nat.zero_le _⟩) hR hS hA (fun r1 M2 H locs h hR hS => ?_)
  obtain ⟨ha, hb2⟩ := h
  refine lv_if_ne (tgt := 10) hx hb dX4_of_5 (by decide) (fun hc => ?_) (fun hc => ?_)
  · replace h := ha hc
    refine lv_iload_n hx hb dX4_of_10 rfl (lv_at hl 1 rfl) ?_
    refine k_calli0 (va_runS (As := [.int p1]) (rest := []) ⟨hx, hb, hml, hown, hts⟩ (c_X4_helperAt l G _ _ _ p1 h) (va_cwS 1 hts gX4_of_X4_helperAt rfl rfl rfl (by decide +kernel) ⟨Nat.le_of_ble_eq_true rfl, Nat.le_of_ble_eq_true rfl⟩) (k_preS hR hS hA hE) rfl rfl hl.1 rfl (lv_room (Nat.le_of_ble_eq_true rfl)) dX4_of_11 ⟨Nat.zero_le _, Nat.zero_le _⟩) hR hS hA (fun r5 M6 H locs h hR hS => ?_)
    refine lv_istore_n (lv' := [(3, .int r5), (0, .ref p0), (1, .int p1), (2, .int p2)]) hx hb dX4_of_14 rfl hl (by decide) rfl (fun ls hl => ?_)
    refine lv_iload_n hx hb dX4_of_15 rfl (lv_at hl 3 rfl) ?_
    have hsw := h
    obtain ⟨hs0, hs1, hs2, hs3, hs4, hs5, hs6, hs7, hs8⟩ := hsw
    by_cases hout : (p2).toInt < 0 ∨ 7 < (p2).toInt
    · refine lv_tableOut (tgt := 133) hx hb dX4_of_16 hout (by decide) ?_
      replace h := hs8 hout
      refine lv_bipush (v := (-2 : Int32)) hx hb dX4_of_133 (by decide) ?_
      exact k_reti hx hb hr hlocks rfl hR hS h dX4_of_135
    have hin : (p2).toInt = 0 ∨ (p2).toInt = 1 ∨ (p2).toInt = 2 ∨ (p2).toInt = 3 ∨ (p2).toInt = 4 ∨ (p2).toInt = 5 ∨ (p2).toInt = 6 ∨ (p2).toInt = 7 := by omega
    rcases hin with hk | hk | hk | hk | hk | hk | hk | hk
    · refine lv_tableIn (tgt := 64) (off := 48) hx hb dX4_of_16 (by omega) (by omega) (by rw [hk]; rfl) (by decide) ?_
      replace h := hs0 hk
      refine lv_aload_n hx hb dX4_of_64 rfl (lv_at hl 1 rfl) ?_
      obtain ⟨fs8, v9, hm10, hv11, h⟩ := h
      refine k_get (ci := 5) (C := RX4) (T := TX4) (N := 13) hx hb hts in_X4_of_X4 hown hK hR hm10 rfl 0 (by decide) hw1 (fun _ h9 => h9) hv11 dX4_of_65 ?_
      refine lv_iload_n hx hb dX4_of_68 rfl (lv_at hl 0 rfl) ?_
      refine lv_iconst (v := (0 : Int32)) hx hb dX4_of_69 (by decide) ?_
      refine lv_iadd hx hb dX4_of_70 ?_
      obtain ⟨n12, f13, hm14, hv15, h⟩ := h
      refine k_iald hx hb hK hR hm14 hv15 dX4_of_71 ?_
      exact k_reti hx hb hr hlocks rfl hR hS h dX4_of_72
    · refine lv_tableIn (tgt := 73) (off := 57) hx hb dX4_of_16 (by omega) (by omega) (by rw [hk]; rfl) (by decide) ?_
      replace h := hs1 hk
      refine lv_aload_n hx hb dX4_of_73 rfl (lv_at hl 1 rfl) ?_
      obtain ⟨fs16, v17, hm18, hv19, h⟩ := h
      refine k_get (ci := 5) (C := RX4) (T := TX4) (N := 13) hx hb hts in_X4_of_X4 hown hK hR hm18 rfl 0 (by decide) hw1 (fun _ h9 => h9) hv19 dX4_of_74 ?_
      refine lv_iload_n hx hb dX4_of_77 rfl (lv_at hl 0 rfl) ?_
      refine lv_iconst (v := (0 : Int32)) hx hb dX4_of_78 (by decide) ?_
      refine lv_iadd hx hb dX4_of_79 ?_
      obtain ⟨n20, f21, hm22, hv23, h⟩ := h
      refine k_iald hx hb hK hR hm22 hv23 dX4_of_80 ?_
      refine k_calli0 (va_runS (As := [.int (f21 ((r5 + (0 : Int32))).toNatClampNeg)]) (rest := []) ⟨hx, hb, hml, hown, hts⟩ (c_X4_bits l G _ _ _ (f21 ((r5 + (0 : Int32))).toNatClampNeg) h) (va_cwS 1 hts gX4_of_X4_bits rfl rfl rfl (by decide +kernel) ⟨Nat.le_of_ble_eq_true rfl, Nat.le_of_ble_eq_true rfl⟩) (k_preS hR hS hA hE) rfl rfl hl.1 rfl (lv_room (Nat.le_of_ble_eq_true rfl)) dX4_of_81 ⟨Nat.zero_le _, Nat.zero_le _⟩) hR hS hA (fun r24 M25 H locs h hR hS => ?_)
      exact k_reti hx hb hr hlocks rfl hR hS h dX4_of_84
    · refine lv_tableIn (tgt := 85) (off := 69) hx hb dX4_of_16 (by omega) (by omega) (by rw [hk]; rfl) (by decide) ?_
      replace h := hs2 hk
      refine lv_aload_n hx hb dX4_of_85 rfl (lv_at hl 1 rfl) ?_
      refine lv_iload_n hx hb dX4_of_86 rfl (lv_at hl 0 rfl) ?_
      refine lv_iconst (v := (0 : Int32)) hx hb dX4_of_87 (by decide) ?_
      obtain ⟨fs30, hm29, h⟩ := h
      refine k_calli0 (va_runV (As := [.int r5, .int (0 : Int32)]) (rest := []) ⟨hx, hb, hml, hown, hts⟩ (c_X4_heights l G _ _ _ p0 r5 (0 : Int32) h) (cwV 2 hts gX4_of_X4_heights rfl rfl rfl (by decide +kernel) ⟨Nat.le_of_ble_eq_true rfl, Nat.le_of_ble_eq_true rfl⟩) (k_preV (q := (RX4, TX4, 13)) hm29 rfl hR hS hA hE) rfl rfl hl.1 rfl (lv_room (Nat.le_of_ble_eq_true rfl)) dX4_of_88 ⟨Nat.zero_le _, Nat.zero_le _⟩) hR hS hA (fun r27 M28 H locs h hR hS => ?_)
      exact k_reti hx hb hr hlocks rfl hR hS h dX4_of_91
    · refine lv_tableIn (tgt := 92) (off := 76) hx hb dX4_of_16 (by omega) (by omega) (by rw [hk]; rfl) (by decide) ?_
      replace h := hs3 hk
      refine lv_aload_n hx hb dX4_of_92 rfl (lv_at hl 1 rfl) ?_
      refine lv_iload_n hx hb dX4_of_93 rfl (lv_at hl 0 rfl) ?_
      refine lv_iconst (v := (1 : Int32)) hx hb dX4_of_94 (by decide) ?_
      obtain ⟨fs34, hm33, h⟩ := h
      refine k_calli0 (va_runV (As := [.int r5, .int (1 : Int32)]) (rest := []) ⟨hx, hb, hml, hown, hts⟩ (c_X4_heights l G _ _ _ p0 r5 (1 : Int32) h) (cwV 2 hts gX4_of_X4_heights rfl rfl rfl (by decide +kernel) ⟨Nat.le_of_ble_eq_true rfl, Nat.le_of_ble_eq_true rfl⟩) (k_preV (q := (RX4, TX4, 13)) hm33 rfl hR hS hA hE) rfl rfl hl.1 rfl (lv_room (Nat.le_of_ble_eq_true rfl)) dX4_of_95 ⟨Nat.zero_le _, Nat.zero_le _⟩) hR hS hA (fun r31 M32 H locs h hR hS => ?_)
      exact k_reti hx hb hr hlocks rfl hR hS h dX4_of_98
    · refine lv_tableIn (tgt := 99) (off := 83) hx hb dX4_of_16 (by omega) (by omega) (by rw [hk]; rfl) (by decide) ?_
      replace h := hs4 hk
      refine lv_aload_n hx hb dX4_of_99 rfl (lv_at hl 1 rfl) ?_
      obtain ⟨fs35, v36, hm37, hv38, h⟩ := h
      refine k_get (ci := 5) (C := RX4) (T := TX4) (N := 13) hx hb hts in_X4_of_X4 hown hK hR hm37 rfl 0 (by decide) hw1 (fun _ h9 => h9) hv38 dX4_of_100 ?_
      refine lv_iload_n hx hb dX4_of_103 rfl (lv_at hl 0 rfl) ?_
      refine k_calli0 (va_runS (As := [.ref v36, .int r5]) (rest := []) ⟨hx, hb, hml, hown, hts⟩ (c_X4_knownMany l G _ _ _ v36 r5 h) (va_cwS 2 hts gX4_of_X4_knownMany rfl rfl rfl (by decide +kernel) ⟨Nat.le_of_ble_eq_true rfl, Nat.le_of_ble_eq_true rfl⟩) (k_preS hR hS hA hE) rfl rfl hl.1 rfl (lv_room (Nat.le_of_ble_eq_true rfl)) dX4_of_104 ⟨Nat.zero_le _, Nat.zero_le _⟩) hR hS hA (fun r39 M40 H locs h hR hS => ?_)
      exact k_reti hx hb hr hlocks rfl hR hS h dX4_of_107
    · refine lv_tableIn (tgt := 108) (off := 92) hx hb dX4_of_16 (by omega) (by omega) (by rw [hk]; rfl) (by decide) ?_
      replace h := hs5 hk
      refine lv_aload_n hx hb dX4_of_108 rfl (lv_at hl 1 rfl) ?_
      refine lv_iload_n hx hb dX4_of_109 rfl (lv_at hl 0 rfl) ?_
      obtain ⟨fs45, hm44, h⟩ := h
      refine k_calli0 (va_runV (As := [.int r5]) (rest := []) ⟨hx, hb, hml, hown, hts⟩ (c_X4_latestOf l G _ _ _ p0 r5 h) (cwV 1 hts gX4_of_X4_latestOf rfl rfl rfl (by decide +kernel) ⟨Nat.le_of_ble_eq_true rfl, Nat.le_of_ble_eq_true rfl⟩) (k_preV (q := (RX4, TX4, 13)) hm44 rfl hR hS hA hE) rfl rfl hl.1 rfl (lv_room (Nat.le_of_ble_eq_true rfl)) dX4_of_110 ⟨Nat.zero_le _, Nat.zero_le _⟩) hR hS hA (fun r42 M43 H locs h hR hS => ?_)
      exact k_reti hx hb hr hlocks rfl hR hS h dX4_of_113
    · refine lv_tableIn (tgt := 114) (off := 98) hx hb dX4_of_16 (by omega) (by omega) (by rw [hk]; rfl) (by decide) ?_
      replace h := hs6 hk
      refine lv_aload_n hx hb dX4_of_114 rfl (lv_at hl 1 rfl) ?_
      obtain ⟨fs46, v47, hm48, hv49, h⟩ := h
      refine k_get (ci := 5) (C := RX4) (T := TX4) (N := 13) hx hb hts in_X4_of_X4 hown hK hR hm48 rfl 0 (by decide) hw1 (fun _ h9 => h9) hv49 dX4_of_115 ?_
      refine lv_iload_n hx hb dX4_of_118 rfl (lv_at hl 0 rfl) ?_
      refine k_calli0 (va_runS (As := [.ref v47, .int r5]) (rest := []) ⟨hx, hb, hml, hown, hts⟩ (c_X4_knots l G _ _ _ v47 r5 h) (va_cwS 2 hts gX4_of_X4_knots rfl rfl rfl (by decide +kernel) ⟨Nat.le_of_ble_eq_true rfl, Nat.le_of_ble_eq_true rfl⟩) (k_preS hR hS hA hE) rfl rfl hl.1 rfl (lv_room (Nat.le_of_ble_eq_true rfl)) dX4_of_119 ⟨Nat.zero_le _, Nat.zero_le _⟩) hR hS hA (fun r50 M51 H locs h hR hS => ?_)
      exact k_reti hx hb hr hlocks rfl hR hS h dX4_of_122
    · refine lv_tableIn (tgt := 123) (off := 107) hx hb dX4_of_16 (by omega) (by omega) (by rw [hk]; rfl) (by decide) ?_
      replace h := hs7 hk
      refine lv_aload_n hx hb dX4_of_123 rfl (lv_at hl 1 rfl) ?_
      refine lv_iload_n hx hb dX4_of_124 rfl (lv_at hl 0 rfl) ?_
      obtain ⟨fs56, hm55, h⟩ := h
      refine k_callv0 (va_runV (As := [.int r5]) (rest := []) ⟨hx, hb, hml, hown, hts⟩ (c_X4_print l G _ _ _ p0 r5 h) (cwV 1 hts gX4_of_X4_print rfl rfl rfl (by decide +kernel) ⟨Nat.le_of_ble_eq_true rfl, Nat.le_of_ble_eq_true rfl⟩) (k_preV (q := (RX4, TX4, 13)) hm55 rfl hR hS hA hE) rfl rfl hl.1 rfl (lv_room (Nat.le_of_ble_eq_true rfl)) dX4_of_125 ⟨Nat.zero_le _, Nat.zero_le _⟩) hR hS hA (fun M54 H locs h hR hS => ?_)
      refine lv_aload_n hx hb dX4_of_128 rfl (lv_at hl 1 rfl) ?_
      obtain ⟨fs57, v58, hm59, hv60, h⟩ := h
      refine k_get (ci := 5) (C := RX4) (T := TX4) (N := 13) hx hb hts in_X4_of_X4 hown hK hR hm59 rfl 12 (by decide) hw2 (fun _ h9 => h9) hv60 dX4_of_129 ?_
      exact k_reti hx hb hr hlocks rfl hR hS h dX4_of_132
  · replace h := hb2 hc
    refine lv_iconst (v := (-1 : Int32)) hx hb dX4_of_8 (by decide) ?_
    exact k_reti hx hb hr hlocks rfl hR hS h dX4_of_9

def wp_X4_ofMessage (G : k_G) (post : Int32 → k_M → Prop) (p0 : Nat) (p1 : Int32) (p2 : Int32) (M0 : k_M) : Prop :=
  (∃ fs4, M0 p0 = some (kO 5 fs4) ∧ wp_X4_isMessage G (fun r1 M2 =>
  ((¬ r1 = 0 →
  wp_X4_messageAt G (fun r5 M6 =>
    (((p2).toInt = 0 →
    (∃ fs8 v9, M6 p0 = some (kO 5 fs8) ∧ fs8[0]? = some (.ref v9) ∧
      (∃ n12 f13, M6 v9 = some (kI G n12 f13) ∧ vp_in (r5 + (0 : Int32)) n12 ∧
      post (f13 ((r5 + (0 : Int32))).toNatClampNeg) M6))) ∧
    ((p2).toInt = 1 →
    (∃ fs19, M6 p0 = some (kO 5 fs19) ∧ wp_X4_heights G (fun r16 M17 =>
      post r16 M17) p0 r5 (1 : Int32) M6)) ∧
    ((p2).toInt = 2 →
    (∃ fs20 v21, M6 p0 = some (kO 5 fs20) ∧ fs20[0]? = some (.ref v21) ∧
      wp_X4_knownMany G (fun r24 M25 =>
      post r24 M25) v21 r5 M6)) ∧
    ((p2).toInt = 3 →
    (∃ fs27 v28, M6 p0 = some (kO 5 fs27) ∧ fs27[0]? = some (.ref v28) ∧
      wp_X4_knots G (fun r31 M32 =>
      post r31 M32) v28 r5 M6)) ∧
    ((p2).toInt < 0 ∨ 3 < (p2).toInt →
    post (-2 : Int32) M6))) p1 M2) ∧
  (r1 = 0 →
  post (-1 : Int32) M2))) p0 p1 M0)
theorem in_X4_ofMessage_X4 : ∀ w ∈ wsX40, w ∈ wsX4_ofMessage := by decide +kernel
set_option maxHeartbeats 4000000 in
set_option maxRecDepth 100000 in
theorem c_X4_ofMessage (l : Launch) (G : k_G) (M0 : k_M) (sz : Nat) (post : Int32 → k_M → Prop) (p0 : Nat) (p1 : Int32) (p2 : Int32) (h : wp_X4_ofMessage G post p0 p1 p2 M0) : Met l yX4_ofMessage wsX4_ofMessage ({ frames := 2, cells := 0, slots := 0, locals := 49 }) (va_Pc [.ref p0, .int p1, .int p2] (kPre G M0 sz)) (va_Qi post (kB G M0 sz) (kA M0 sz)) 0 0 (kA M0 sz) := by
  refine Met.ofW (cc := cX4_ofMessage) (maxL := 4) (ret := (some .int)) (by decide) rfl ?_
  intro p e s m args below meth c s₁ B hml hv
  obtain ⟨rfl, hsz, hR, hE⟩ := hv
  have hx := B.exec
  have hb := B.bytes
  have hr := B.returns
  have hts := atoms_spec (ws := wsX4_ofMessage) B.pre
  have hown : s.vm.findClass RX4 = some m.cls := findClass_of_methodNamed B.named
  have hlocks := B.notSynchronized
  subst hsz
  have hK := hE.1
  have hA : ∀ q, s.heap.size ≤ q → kA M0 s.heap.size q := kA.new
  have hS : va_S (kA M0 s.heap.size) s.heap s.heap [] := va_S.rf
  have hw1 := hts (.fieldLink RX4 7 "ForkedStampsModel" "state" "[I") (by decide +kernel)
  have hl := lv_entry ([.ref p0, .int p1, .int p2]) (n := 4) (Nat.le_of_ble_eq_true rfl)
  rw [lg_entry_eq]
  generalize (lg_sl ([.ref p0, .int p1, .int p2]) ++ List.replicate (4 - (lg_sl ([.ref p0, .int p1, .int p2])).length) Slot.unset).toArray = ls at hl ⊢
  have hl : lv_has ls 4 [(0, .ref p0), (1, .int p1), (2, .int p2)] := hl
  have hR0 := hR
  refine lv_aload_n hx hb dX4_ofMessage_0 rfl (lv_at hl 0 rfl) ?_
  refine lv_iload_n hx hb dX4_ofMessage_1 rfl (lv_at hl 1 rfl) ?_
  obtain ⟨fs4, hm3, h⟩ := h
  refine k_calli0 (va_runV (As := [.int p1]) (rest := []) ⟨hx, hb, hml, hown, hts⟩ (c_X4_isMessage l G _ _ _ p0 p1 h) (cwV 1 hts gX4_ofMessage_X4_isMessage rfl rfl rfl (by decide +kernel) ⟨Nat.le_of_ble_eq_true rfl, Nat.le_of_ble_eq_true rfl⟩) (k_preV (q := (RX4, TX4, 13)) hm3 rfl hR hS hA hE) rfl rfl hl.1 rfl (lv_room (Nat.le_of_ble_eq_true rfl)) dX4_ofMessage_2 ⟨Nat.zero_le _, Nat.zero_le _⟩) hR hS hA (fun r1 M2 H locs h hR hS => ?_)
  obtain ⟨ha, hb2⟩ := h
  refine lv_if_ne (tgt := 10) hx hb dX4_ofMessage_5 (by decide) (fun hc => ?_) (fun hc => ?_)
  · replace h := ha hc
    refine lv_iload_n hx hb dX4_ofMessage_10 rfl (lv_at hl 1 rfl) ?_
    refine k_calli0 (va_runS (As := [.int p1]) (rest := []) ⟨hx, hb, hml, hown, hts⟩ (c_X4_messageAt l G _ _ _ p1 h) (va_cwS 1 hts gX4_ofMessage_X4_messageAt rfl rfl rfl (by decide +kernel) ⟨Nat.le_of_ble_eq_true rfl, Nat.le_of_ble_eq_true rfl⟩) (k_preS hR hS hA hE) rfl rfl hl.1 rfl (lv_room (Nat.le_of_ble_eq_true rfl)) dX4_ofMessage_11 ⟨Nat.zero_le _, Nat.zero_le _⟩) hR hS hA (fun r5 M6 H locs h hR hS => ?_)
    refine lv_istore_n (lv' := [(3, .int r5), (0, .ref p0), (1, .int p1), (2, .int p2)]) hx hb dX4_ofMessage_14 rfl hl (by decide) rfl (fun ls hl => ?_)
    refine lv_iload_n hx hb dX4_ofMessage_15 rfl (lv_at hl 3 rfl) ?_
    have hsw := h
    obtain ⟨hs0, hs1, hs2, hs3, hs4⟩ := hsw
    by_cases hout : (p2).toInt < 0 ∨ 3 < (p2).toInt
    · refine lv_tableOut (tgt := 82) hx hb dX4_ofMessage_16 hout (by decide) ?_
      replace h := hs4 hout
      refine lv_bipush (v := (-2 : Int32)) hx hb dX4_ofMessage_82 (by decide) ?_
      exact k_reti hx hb hr hlocks rfl hR hS h dX4_ofMessage_84
    have hin : (p2).toInt = 0 ∨ (p2).toInt = 1 ∨ (p2).toInt = 2 ∨ (p2).toInt = 3 := by omega
    rcases hin with hk | hk | hk | hk
    · refine lv_tableIn (tgt := 48) (off := 32) hx hb dX4_ofMessage_16 (by omega) (by omega) (by rw [hk]; rfl) (by decide) ?_
      replace h := hs0 hk
      refine lv_aload_n hx hb dX4_ofMessage_48 rfl (lv_at hl 1 rfl) ?_
      obtain ⟨fs8, v9, hm10, hv11, h⟩ := h
      refine k_get (ci := 5) (C := RX4) (T := TX4) (N := 13) hx hb hts in_X4_ofMessage_X4 hown hK hR hm10 rfl 0 (by decide) hw1 (fun _ h9 => h9) hv11 dX4_ofMessage_49 ?_
      refine lv_iload_n hx hb dX4_ofMessage_52 rfl (lv_at hl 0 rfl) ?_
      refine lv_iconst (v := (0 : Int32)) hx hb dX4_ofMessage_53 (by decide) ?_
      refine lv_iadd hx hb dX4_ofMessage_54 ?_
      obtain ⟨n12, f13, hm14, hv15, h⟩ := h
      refine k_iald hx hb hK hR hm14 hv15 dX4_ofMessage_55 ?_
      exact k_reti hx hb hr hlocks rfl hR hS h dX4_ofMessage_56
    · refine lv_tableIn (tgt := 57) (off := 41) hx hb dX4_ofMessage_16 (by omega) (by omega) (by rw [hk]; rfl) (by decide) ?_
      replace h := hs1 hk
      refine lv_aload_n hx hb dX4_ofMessage_57 rfl (lv_at hl 1 rfl) ?_
      refine lv_iload_n hx hb dX4_ofMessage_58 rfl (lv_at hl 0 rfl) ?_
      refine lv_iconst (v := (1 : Int32)) hx hb dX4_ofMessage_59 (by decide) ?_
      obtain ⟨fs19, hm18, h⟩ := h
      refine k_calli0 (va_runV (As := [.int r5, .int (1 : Int32)]) (rest := []) ⟨hx, hb, hml, hown, hts⟩ (c_X4_heights l G _ _ _ p0 r5 (1 : Int32) h) (cwV 2 hts gX4_ofMessage_X4_heights rfl rfl rfl (by decide +kernel) ⟨Nat.le_of_ble_eq_true rfl, Nat.le_of_ble_eq_true rfl⟩) (k_preV (q := (RX4, TX4, 13)) hm18 rfl hR hS hA hE) rfl rfl hl.1 rfl (lv_room (Nat.le_of_ble_eq_true rfl)) dX4_ofMessage_60 ⟨Nat.zero_le _, Nat.zero_le _⟩) hR hS hA (fun r16 M17 H locs h hR hS => ?_)
      exact k_reti hx hb hr hlocks rfl hR hS h dX4_ofMessage_63
    · refine lv_tableIn (tgt := 64) (off := 48) hx hb dX4_ofMessage_16 (by omega) (by omega) (by rw [hk]; rfl) (by decide) ?_
      replace h := hs2 hk
      refine lv_aload_n hx hb dX4_ofMessage_64 rfl (lv_at hl 1 rfl) ?_
      obtain ⟨fs20, v21, hm22, hv23, h⟩ := h
      refine k_get (ci := 5) (C := RX4) (T := TX4) (N := 13) hx hb hts in_X4_ofMessage_X4 hown hK hR hm22 rfl 0 (by decide) hw1 (fun _ h9 => h9) hv23 dX4_ofMessage_65 ?_
      refine lv_iload_n hx hb dX4_ofMessage_68 rfl (lv_at hl 0 rfl) ?_
      refine k_calli0 (va_runS (As := [.ref v21, .int r5]) (rest := []) ⟨hx, hb, hml, hown, hts⟩ (c_X4_knownMany l G _ _ _ v21 r5 h) (va_cwS 2 hts gX4_ofMessage_X4_knownMany rfl rfl rfl (by decide +kernel) ⟨Nat.le_of_ble_eq_true rfl, Nat.le_of_ble_eq_true rfl⟩) (k_preS hR hS hA hE) rfl rfl hl.1 rfl (lv_room (Nat.le_of_ble_eq_true rfl)) dX4_ofMessage_69 ⟨Nat.zero_le _, Nat.zero_le _⟩) hR hS hA (fun r24 M25 H locs h hR hS => ?_)
      exact k_reti hx hb hr hlocks rfl hR hS h dX4_ofMessage_72
    · refine lv_tableIn (tgt := 73) (off := 57) hx hb dX4_ofMessage_16 (by omega) (by omega) (by rw [hk]; rfl) (by decide) ?_
      replace h := hs3 hk
      refine lv_aload_n hx hb dX4_ofMessage_73 rfl (lv_at hl 1 rfl) ?_
      obtain ⟨fs27, v28, hm29, hv30, h⟩ := h
      refine k_get (ci := 5) (C := RX4) (T := TX4) (N := 13) hx hb hts in_X4_ofMessage_X4 hown hK hR hm29 rfl 0 (by decide) hw1 (fun _ h9 => h9) hv30 dX4_ofMessage_74 ?_
      refine lv_iload_n hx hb dX4_ofMessage_77 rfl (lv_at hl 0 rfl) ?_
      refine k_calli0 (va_runS (As := [.ref v28, .int r5]) (rest := []) ⟨hx, hb, hml, hown, hts⟩ (c_X4_knots l G _ _ _ v28 r5 h) (va_cwS 2 hts gX4_ofMessage_X4_knots rfl rfl rfl (by decide +kernel) ⟨Nat.le_of_ble_eq_true rfl, Nat.le_of_ble_eq_true rfl⟩) (k_preS hR hS hA hE) rfl rfl hl.1 rfl (lv_room (Nat.le_of_ble_eq_true rfl)) dX4_ofMessage_78 ⟨Nat.zero_le _, Nat.zero_le _⟩) hR hS hA (fun r31 M32 H locs h hR hS => ?_)
      exact k_reti hx hb hr hlocks rfl hR hS h dX4_ofMessage_81
  · replace h := hb2 hc
    refine lv_iconst (v := (-1 : Int32)) hx hb dX4_ofMessage_8 (by decide) ?_
    exact k_reti hx hb hr hlocks rfl hR hS h dX4_ofMessage_9

def wp_X4_height (G : k_G) (post : Int32 → k_M → Prop) (p0 : Nat) (p1 : Int32) (p2 : Int32) (p3 : Int32) (M0 : k_M) : Prop :=
  wp_X4_within G (fun r1 M2 =>
  ((¬ r1 = 0 →
  (∃ fs7, M2 p0 = some (kO 5 fs7) ∧ wp_X4_isThere G (fun r4 M5 =>
    ((r4 = 0 →
    post (-1 : Int32) M5) ∧
    (¬ r4 = 0 →
    wp_X4_within G (fun r8 M9 =>
      ((r8 = 0 →
      post (-1 : Int32) M9) ∧
      (¬ r8 = 0 →
      (∃ fs11 v12, M9 p0 = some (kO 5 fs11) ∧ fs11[0]? = some (.ref v12) ∧
        wp_X4_placeOf G (fun r15 M16 =>
        (∃ n18 f19, M16 v12 = some (kI G n18 f19) ∧ vp_in ((r15 + (1 : Int32)) + p3) n18 ∧
        post (f19 (((r15 + (1 : Int32)) + p3)).toNatClampNeg) M16)) p1 p2 M9)))) p3 (0 : Int32) (15 : Int32) M5))) p0 p1 p2 M2)) ∧
  (r1 = 0 →
  post (-2 : Int32) M2))) p1 (0 : Int32) (1 : Int32) M0
theorem in_X4_height_X4 : ∀ w ∈ wsX40, w ∈ wsX4_height := by decide +kernel
set_option maxHeartbeats 4000000 in
set_option maxRecDepth 100000 in
theorem c_X4_height (l : Launch) (G : k_G) (M0 : k_M) (sz : Nat) (post : Int32 → k_M → Prop) (p0 : Nat) (p1 : Int32) (p2 : Int32) (p3 : Int32) (h : wp_X4_height G post p0 p1 p2 p3 M0) : Met l yX4_height wsX4_height ({ frames := 3, cells := 0, slots := 0, locals := 65 }) (va_Pc [.ref p0, .int p1, .int p2, .int p3] (kPre G M0 sz)) (va_Qi post (kB G M0 sz) (kA M0 sz)) 0 0 (kA M0 sz) := by
  refine Met.ofW (cc := cX4_height) (maxL := 4) (ret := (some .int)) (by decide) rfl ?_
  intro p e s m args below meth c s₁ B hml hv
  obtain ⟨rfl, hsz, hR, hE⟩ := hv
  have hx := B.exec
  have hb := B.bytes
  have hr := B.returns
  have hts := atoms_spec (ws := wsX4_height) B.pre
  have hown : s.vm.findClass RX4 = some m.cls := findClass_of_methodNamed B.named
  have hlocks := B.notSynchronized
  subst hsz
  have hK := hE.1
  have hA : ∀ q, s.heap.size ≤ q → kA M0 s.heap.size q := kA.new
  have hS : va_S (kA M0 s.heap.size) s.heap s.heap [] := va_S.rf
  have hw1 := hts (.fieldLink RX4 7 "ForkedStampsModel" "state" "[I") (by decide +kernel)
  have hl := lv_entry ([.ref p0, .int p1, .int p2, .int p3]) (n := 4) (Nat.le_of_ble_eq_true rfl)
  rw [lg_entry_eq]
  generalize (lg_sl ([.ref p0, .int p1, .int p2, .int p3]) ++ List.replicate (4 - (lg_sl ([.ref p0, .int p1, .int p2, .int p3])).length) Slot.unset).toArray = ls at hl ⊢
  have hl : lv_has ls 4 [(0, .ref p0), (1, .int p1), (2, .int p2), (3, .int p3)] := hl
  have hR0 := hR
  refine lv_iload_n hx hb dX4_height_0 rfl (lv_at hl 1 rfl) ?_
  refine lv_iconst (v := (0 : Int32)) hx hb dX4_height_1 (by decide) ?_
  refine lv_iconst (v := (1 : Int32)) hx hb dX4_height_2 (by decide) ?_
  refine k_calli0 (va_runS (As := [.int p1, .int (0 : Int32), .int (1 : Int32)]) (rest := []) ⟨hx, hb, hml, hown, hts⟩ (c_X4_within l G _ _ _ p1 (0 : Int32) (1 : Int32) h) (va_cwS 3 hts gX4_height_X4_within rfl rfl rfl (by decide +kernel) ⟨Nat.le_of_ble_eq_true rfl, Nat.le_of_ble_eq_true rfl⟩) (k_preS hR hS hA hE) rfl rfl hl.1 rfl (lv_room (Nat.le_of_ble_eq_true rfl)) dX4_height_3 ⟨Nat.zero_le _, Nat.zero_le _⟩) hR hS hA (fun r1 M2 H locs h hR hS => ?_)
  obtain ⟨ha, hb2⟩ := h
  refine lv_if_ne (tgt := 12) hx hb dX4_height_6 (by decide) (fun hc => ?_) (fun hc => ?_)
  · replace h := ha hc
    refine lv_aload_n hx hb dX4_height_12 rfl (lv_at hl 0 rfl) ?_
    refine lv_iload_n hx hb dX4_height_13 rfl (lv_at hl 1 rfl) ?_
    refine lv_iload_n hx hb dX4_height_14 rfl (lv_at hl 2 rfl) ?_
    obtain ⟨fs7, hm6, h⟩ := h
    refine k_calli0 (va_runV (As := [.int p1, .int p2]) (rest := []) ⟨hx, hb, hml, hown, hts⟩ (c_X4_isThere l G _ _ _ p0 p1 p2 h) (cwV 2 hts gX4_height_X4_isThere rfl rfl rfl (by decide +kernel) ⟨Nat.le_of_ble_eq_true rfl, Nat.le_of_ble_eq_true rfl⟩) (k_preV (q := (RX4, TX4, 13)) hm6 rfl hR hS hA hE) rfl rfl hl.1 rfl (lv_room (Nat.le_of_ble_eq_true rfl)) dX4_height_15 ⟨Nat.zero_le _, Nat.zero_le _⟩) hR hS hA (fun r4 M5 H locs h hR hS => ?_)
    obtain ⟨ha, hb2⟩ := h
    refine lv_if_eq (tgt := 48) hx hb dX4_height_18 (by decide) (fun hc => ?_) (fun hc => ?_)
    · replace h := ha hc
      refine lv_iconst (v := (-1 : Int32)) hx hb dX4_height_48 (by decide) ?_
      exact k_reti hx hb hr hlocks rfl hR hS h dX4_height_49
    · replace h := hb2 hc
      refine lv_iload_n hx hb dX4_height_21 rfl (lv_at hl 3 rfl) ?_
      refine lv_iconst (v := (0 : Int32)) hx hb dX4_height_22 (by decide) ?_
      refine lv_bipush (v := (15 : Int32)) hx hb dX4_height_23 (by decide) ?_
      refine k_calli0 (va_runS (As := [.int p3, .int (0 : Int32), .int (15 : Int32)]) (rest := []) ⟨hx, hb, hml, hown, hts⟩ (c_X4_within l G _ _ _ p3 (0 : Int32) (15 : Int32) h) (va_cwS 3 hts gX4_height_X4_within rfl rfl rfl (by decide +kernel) ⟨Nat.le_of_ble_eq_true rfl, Nat.le_of_ble_eq_true rfl⟩) (k_preS hR hS hA hE) rfl rfl hl.1 rfl (lv_room (Nat.le_of_ble_eq_true rfl)) dX4_height_25 ⟨Nat.zero_le _, Nat.zero_le _⟩) hR hS hA (fun r8 M9 H locs h hR hS => ?_)
      obtain ⟨ha, hb2⟩ := h
      refine lv_if_eq (tgt := 48) hx hb dX4_height_28 (by decide) (fun hc => ?_) (fun hc => ?_)
      · replace h := ha hc
        refine lv_iconst (v := (-1 : Int32)) hx hb dX4_height_48 (by decide) ?_
        exact k_reti hx hb hr hlocks rfl hR hS h dX4_height_49
      · replace h := hb2 hc
        refine lv_aload_n hx hb dX4_height_31 rfl (lv_at hl 0 rfl) ?_
        obtain ⟨fs11, v12, hm13, hv14, h⟩ := h
        refine k_get (ci := 5) (C := RX4) (T := TX4) (N := 13) hx hb hts in_X4_height_X4 hown hK hR hm13 rfl 0 (by decide) hw1 (fun _ h9 => h9) hv14 dX4_height_32 ?_
        refine lv_iload_n hx hb dX4_height_35 rfl (lv_at hl 1 rfl) ?_
        refine lv_iload_n hx hb dX4_height_36 rfl (lv_at hl 2 rfl) ?_
        refine k_calli0 (va_runS (As := [.int p1, .int p2]) (rest := [.ref v12]) ⟨hx, hb, hml, hown, hts⟩ (c_X4_placeOf l G _ _ _ p1 p2 h) (va_cwS 2 hts gX4_height_X4_placeOf rfl rfl rfl (by decide +kernel) ⟨Nat.le_of_ble_eq_true rfl, Nat.le_of_ble_eq_true rfl⟩) (k_preS hR hS hA hE) rfl rfl hl.1 rfl (lv_room (Nat.le_of_ble_eq_true rfl)) dX4_height_37 ⟨Nat.zero_le _, Nat.zero_le _⟩) hR hS hA (fun r15 M16 H locs h hR hS => ?_)
        refine lv_iconst (v := (1 : Int32)) hx hb dX4_height_40 (by decide) ?_
        refine lv_iadd hx hb dX4_height_41 ?_
        refine lv_iload_n hx hb dX4_height_42 rfl (lv_at hl 3 rfl) ?_
        refine lv_iadd hx hb dX4_height_43 ?_
        obtain ⟨n18, f19, hm20, hv21, h⟩ := h
        refine k_iald hx hb hK hR hm20 hv21 dX4_height_44 ?_
        refine lv_goto (tgt := 49) hx hb dX4_height_45 (by decide) ?_
        exact k_reti hx hb hr hlocks rfl hR hS h dX4_height_49
  · replace h := hb2 hc
    refine lv_bipush (v := (-2 : Int32)) hx hb dX4_height_9 (by decide) ?_
    exact k_reti hx hb hr hlocks rfl hR hS h dX4_height_11

def wp_X4_knows (G : k_G) (post : Int32 → k_M → Prop) (p0 : Nat) (p1 : Int32) (p2 : Int32) (p3 : Int32) (M0 : k_M) : Prop :=
  wp_X4_within G (fun r1 M2 =>
  ((¬ r1 = 0 →
  (∃ fs7, M2 p0 = some (kO 5 fs7) ∧ wp_X4_isThere G (fun r4 M5 =>
    ((r4 = 0 →
    post (-1 : Int32) M5) ∧
    (¬ r4 = 0 →
    (∃ fs8 v9, M5 p0 = some (kO 5 fs8) ∧ fs8[0]? = some (.ref v9) ∧
      (∃ n12 f13, M5 v9 = some (kI G n12 f13) ∧ vp_in (2 : Int32) n12 ∧
      wp_X4_within G (fun r16 M17 =>
      ((¬ r16 = 0 →
      wp_X4_placeOf G (fun r19 M20 =>
        (∃ fs25, M20 p0 = some (kO 5 fs25) ∧ wp_X4_isKnown G (fun r22 M23 =>
        ((r22 = 0 →
        post (0 : Int32) M23) ∧
        (¬ r22 = 0 →
        post (1 : Int32) M23))) p0 r19 p3 M20)) p1 p2 M17) ∧
      (r16 = 0 →
      post (-1 : Int32) M17))) p3 (0 : Int32) ((f13 ((2 : Int32)).toNatClampNeg) - (1 : Int32)) M5))))) p0 p1 p2 M2)) ∧
  (r1 = 0 →
  post (-2 : Int32) M2))) p1 (0 : Int32) (1 : Int32) M0
theorem in_X4_knows_X4 : ∀ w ∈ wsX40, w ∈ wsX4_knows := by decide +kernel
set_option maxHeartbeats 4000000 in
set_option maxRecDepth 100000 in
theorem c_X4_knows (l : Launch) (G : k_G) (M0 : k_M) (sz : Nat) (post : Int32 → k_M → Prop) (p0 : Nat) (p1 : Int32) (p2 : Int32) (p3 : Int32) (h : wp_X4_knows G post p0 p1 p2 p3 M0) : Met l yX4_knows wsX4_knows ({ frames := 3, cells := 0, slots := 0, locals := 65 }) (va_Pc [.ref p0, .int p1, .int p2, .int p3] (kPre G M0 sz)) (va_Qi post (kB G M0 sz) (kA M0 sz)) 0 0 (kA M0 sz) := by
  refine Met.ofW (cc := cX4_knows) (maxL := 4) (ret := (some .int)) (by decide) rfl ?_
  intro p e s m args below meth c s₁ B hml hv
  obtain ⟨rfl, hsz, hR, hE⟩ := hv
  have hx := B.exec
  have hb := B.bytes
  have hr := B.returns
  have hts := atoms_spec (ws := wsX4_knows) B.pre
  have hown : s.vm.findClass RX4 = some m.cls := findClass_of_methodNamed B.named
  have hlocks := B.notSynchronized
  subst hsz
  have hK := hE.1
  have hA : ∀ q, s.heap.size ≤ q → kA M0 s.heap.size q := kA.new
  have hS : va_S (kA M0 s.heap.size) s.heap s.heap [] := va_S.rf
  have hw1 := hts (.fieldLink RX4 7 "ForkedStampsModel" "state" "[I") (by decide +kernel)
  have hl := lv_entry ([.ref p0, .int p1, .int p2, .int p3]) (n := 4) (Nat.le_of_ble_eq_true rfl)
  rw [lg_entry_eq]
  generalize (lg_sl ([.ref p0, .int p1, .int p2, .int p3]) ++ List.replicate (4 - (lg_sl ([.ref p0, .int p1, .int p2, .int p3])).length) Slot.unset).toArray = ls at hl ⊢
  have hl : lv_has ls 4 [(0, .ref p0), (1, .int p1), (2, .int p2), (3, .int p3)] := hl
  have hR0 := hR
  refine lv_iload_n hx hb dX4_knows_0 rfl (lv_at hl 1 rfl) ?_
  refine lv_iconst (v := (0 : Int32)) hx hb dX4_knows_1 (by decide) ?_
  refine lv_iconst (v := (1 : Int32)) hx hb dX4_knows_2 (by decide) ?_
  refine k_calli0 (va_runS (As := [.int p1, .int (0 : Int32), .int (1 : Int32)]) (rest := []) ⟨hx, hb, hml, hown, hts⟩ (c_X4_within l G _ _ _ p1 (0 : Int32) (1 : Int32) h) (va_cwS 3 hts gX4_knows_X4_within rfl rfl rfl (by decide +kernel) ⟨Nat.le_of_ble_eq_true rfl, Nat.le_of_ble_eq_true rfl⟩) (k_preS hR hS hA hE) rfl rfl hl.1 rfl (lv_room (Nat.le_of_ble_eq_true rfl)) dX4_knows_3 ⟨Nat.zero_le _, Nat.zero_le _⟩) hR hS hA (fun r1 M2 H locs h hR hS => ?_)
  obtain ⟨ha, hb2⟩ := h
  refine lv_if_ne (tgt := 12) hx hb dX4_knows_6 (by decide) (fun hc => ?_) (fun hc => ?_)
  · replace h := ha hc
    refine lv_aload_n hx hb dX4_knows_12 rfl (lv_at hl 0 rfl) ?_
    refine lv_iload_n hx hb dX4_knows_13 rfl (lv_at hl 1 rfl) ?_
    refine lv_iload_n hx hb dX4_knows_14 rfl (lv_at hl 2 rfl) ?_
    obtain ⟨fs7, hm6, h⟩ := h
    refine k_calli0 (va_runV (As := [.int p1, .int p2]) (rest := []) ⟨hx, hb, hml, hown, hts⟩ (c_X4_isThere l G _ _ _ p0 p1 p2 h) (cwV 2 hts gX4_knows_X4_isThere rfl rfl rfl (by decide +kernel) ⟨Nat.le_of_ble_eq_true rfl, Nat.le_of_ble_eq_true rfl⟩) (k_preV (q := (RX4, TX4, 13)) hm6 rfl hR hS hA hE) rfl rfl hl.1 rfl (lv_room (Nat.le_of_ble_eq_true rfl)) dX4_knows_15 ⟨Nat.zero_le _, Nat.zero_le _⟩) hR hS hA (fun r4 M5 H locs h hR hS => ?_)
    obtain ⟨ha, hb2⟩ := h
    refine lv_if_eq (tgt := 37) hx hb dX4_knows_18 (by decide) (fun hc => ?_) (fun hc => ?_)
    · replace h := ha hc
      refine lv_iconst (v := (-1 : Int32)) hx hb dX4_knows_37 (by decide) ?_
      exact k_reti hx hb hr hlocks rfl hR hS h dX4_knows_38
    · replace h := hb2 hc
      refine lv_iload_n hx hb dX4_knows_21 rfl (lv_at hl 3 rfl) ?_
      refine lv_iconst (v := (0 : Int32)) hx hb dX4_knows_22 (by decide) ?_
      refine lv_aload_n hx hb dX4_knows_23 rfl (lv_at hl 0 rfl) ?_
      obtain ⟨fs8, v9, hm10, hv11, h⟩ := h
      refine k_get (ci := 5) (C := RX4) (T := TX4) (N := 13) hx hb hts in_X4_knows_X4 hown hK hR hm10 rfl 0 (by decide) hw1 (fun _ h9 => h9) hv11 dX4_knows_24 ?_
      refine lv_iconst (v := (2 : Int32)) hx hb dX4_knows_27 (by decide) ?_
      obtain ⟨n12, f13, hm14, hv15, h⟩ := h
      refine k_iald hx hb hK hR hm14 hv15 dX4_knows_28 ?_
      refine lv_iconst (v := (1 : Int32)) hx hb dX4_knows_29 (by decide) ?_
      refine lv_isub hx hb dX4_knows_30 ?_
      refine k_calli0 (va_runS (As := [.int p3, .int (0 : Int32), .int ((f13 ((2 : Int32)).toNatClampNeg) - (1 : Int32))]) (rest := []) ⟨hx, hb, hml, hown, hts⟩ (c_X4_within l G _ _ _ p3 (0 : Int32) ((f13 ((2 : Int32)).toNatClampNeg) - (1 : Int32)) h) (va_cwS 3 hts gX4_knows_X4_within rfl rfl rfl (by decide +kernel) ⟨Nat.le_of_ble_eq_true rfl, Nat.le_of_ble_eq_true rfl⟩) (k_preS hR hS hA hE) rfl rfl hl.1 rfl (lv_room (Nat.le_of_ble_eq_true rfl)) dX4_knows_31 ⟨Nat.zero_le _, Nat.zero_le _⟩) hR hS hA (fun r16 M17 H locs h hR hS => ?_)
      obtain ⟨ha, hb2⟩ := h
      refine lv_if_ne (tgt := 39) hx hb dX4_knows_34 (by decide) (fun hc => ?_) (fun hc => ?_)
      · replace h := ha hc
        refine lv_aload_n hx hb dX4_knows_39 rfl (lv_at hl 0 rfl) ?_
        refine lv_iload_n hx hb dX4_knows_40 rfl (lv_at hl 1 rfl) ?_
        refine lv_iload_n hx hb dX4_knows_41 rfl (lv_at hl 2 rfl) ?_
        refine k_calli0 (va_runS (As := [.int p1, .int p2]) (rest := [.ref p0]) ⟨hx, hb, hml, hown, hts⟩ (c_X4_placeOf l G _ _ _ p1 p2 h) (va_cwS 2 hts gX4_knows_X4_placeOf rfl rfl rfl (by decide +kernel) ⟨Nat.le_of_ble_eq_true rfl, Nat.le_of_ble_eq_true rfl⟩) (k_preS hR hS hA hE) rfl rfl hl.1 rfl (lv_room (Nat.le_of_ble_eq_true rfl)) dX4_knows_42 ⟨Nat.zero_le _, Nat.zero_le _⟩) hR hS hA (fun r19 M20 H locs h hR hS => ?_)
        refine lv_iload_n hx hb dX4_knows_45 rfl (lv_at hl 3 rfl) ?_
        obtain ⟨fs25, hm24, h⟩ := h
        refine k_calli0 (va_runV (As := [.int r19, .int p3]) (rest := []) ⟨hx, hb, hml, hown, hts⟩ (c_X4_isKnown l G _ _ _ p0 r19 p3 h) (cwV 2 hts gX4_knows_X4_isKnown rfl rfl rfl (by decide +kernel) ⟨Nat.le_of_ble_eq_true rfl, Nat.le_of_ble_eq_true rfl⟩) (k_preV (q := (RX4, TX4, 13)) hm24 rfl hR hS hA hE) rfl rfl hl.1 rfl (lv_room (Nat.le_of_ble_eq_true rfl)) dX4_knows_46 ⟨Nat.zero_le _, Nat.zero_le _⟩) hR hS hA (fun r22 M23 H locs h hR hS => ?_)
        obtain ⟨ha, hb2⟩ := h
        refine lv_if_eq (tgt := 56) hx hb dX4_knows_49 (by decide) (fun hc => ?_) (fun hc => ?_)
        · replace h := ha hc
          refine lv_iconst (v := (0 : Int32)) hx hb dX4_knows_56 (by decide) ?_
          exact k_reti hx hb hr hlocks rfl hR hS h dX4_knows_57
        · replace h := hb2 hc
          refine lv_iconst (v := (1 : Int32)) hx hb dX4_knows_52 (by decide) ?_
          refine lv_goto (tgt := 57) hx hb dX4_knows_53 (by decide) ?_
          exact k_reti hx hb hr hlocks rfl hR hS h dX4_knows_57
      · replace h := hb2 hc
        refine lv_iconst (v := (-1 : Int32)) hx hb dX4_knows_37 (by decide) ?_
        exact k_reti hx hb hr hlocks rfl hR hS h dX4_knows_38
  · replace h := hb2 hc
    refine lv_bipush (v := (-2 : Int32)) hx hb dX4_knows_9 (by decide) ?_
    exact k_reti hx hb hr hlocks rfl hR hS h dX4_knows_11

def wp_X4_orderOfHelpers (G : k_G) (post : Int32 → k_M → Prop) (p0 : Nat) (p1 : Int32) (p2 : Int32) (M0 : k_M) : Prop :=
  (∃ fs1 v2, M0 p0 = some (kO 5 fs1) ∧ fs1[0]? = some (.ref v2) ∧
  wp_X4_helperAt G (fun r5 M6 =>
  (∃ fs8 v9, M6 p0 = some (kO 5 fs8) ∧ fs8[0]? = some (.ref v9) ∧
  wp_X4_helperAt G (fun r12 M13 =>
  wp_X4_orderOf G (fun r15 M16 =>
  post r15 M16) v2 r5 v9 r12 M13) p2 M6)) p1 M0)
theorem in_X4_orderOfHelpers_X4 : ∀ w ∈ wsX40, w ∈ wsX4_orderOfHelpers := by decide +kernel
set_option maxHeartbeats 4000000 in
set_option maxRecDepth 100000 in
theorem c_X4_orderOfHelpers (l : Launch) (G : k_G) (M0 : k_M) (sz : Nat) (post : Int32 → k_M → Prop) (p0 : Nat) (p1 : Int32) (p2 : Int32) (h : wp_X4_orderOfHelpers G post p0 p1 p2 M0) : Met l yX4_orderOfHelpers wsX4_orderOfHelpers ({ frames := 1, cells := 0, slots := 0, locals := 26 }) (va_Pc [.ref p0, .int p1, .int p2] (kPre G M0 sz)) (va_Qi post (kB G M0 sz) (kA M0 sz)) 0 0 (kA M0 sz) := by
  refine Met.ofW (cc := cX4_orderOfHelpers) (maxL := 3) (ret := (some .int)) (by decide) rfl ?_
  intro p e s m args below meth c s₁ B hml hv
  obtain ⟨rfl, hsz, hR, hE⟩ := hv
  have hx := B.exec
  have hb := B.bytes
  have hr := B.returns
  have hts := atoms_spec (ws := wsX4_orderOfHelpers) B.pre
  have hown : s.vm.findClass RX4 = some m.cls := findClass_of_methodNamed B.named
  have hlocks := B.notSynchronized
  subst hsz
  have hK := hE.1
  have hA : ∀ q, s.heap.size ≤ q → kA M0 s.heap.size q := kA.new
  have hS : va_S (kA M0 s.heap.size) s.heap s.heap [] := va_S.rf
  have hw1 := hts (.fieldLink RX4 7 "ForkedStampsModel" "state" "[I") (by decide +kernel)
  have hl := lv_entry ([.ref p0, .int p1, .int p2]) (n := 3) (Nat.le_of_ble_eq_true rfl)
  rw [lg_entry_eq]
  generalize (lg_sl ([.ref p0, .int p1, .int p2]) ++ List.replicate (3 - (lg_sl ([.ref p0, .int p1, .int p2])).length) Slot.unset).toArray = ls at hl ⊢
  have hl : lv_has ls 3 [(0, .ref p0), (1, .int p1), (2, .int p2)] := hl
  have hR0 := hR
  refine lv_aload_n hx hb dX4_orderOfHelpers_0 rfl (lv_at hl 0 rfl) ?_
  obtain ⟨fs1, v2, hm3, hv4, h⟩ := h
  refine k_get (ci := 5) (C := RX4) (T := TX4) (N := 13) hx hb hts in_X4_orderOfHelpers_X4 hown hK hR hm3 rfl 0 (by decide) hw1 (fun _ h9 => h9) hv4 dX4_orderOfHelpers_1 ?_
  refine lv_iload_n hx hb dX4_orderOfHelpers_4 rfl (lv_at hl 1 rfl) ?_
  refine k_calli0 (va_runS (As := [.int p1]) (rest := [.ref v2]) ⟨hx, hb, hml, hown, hts⟩ (c_X4_helperAt l G _ _ _ p1 h) (va_cwS 1 hts gX4_orderOfHelpers_X4_helperAt rfl rfl rfl (by decide +kernel) ⟨Nat.le_of_ble_eq_true rfl, Nat.le_of_ble_eq_true rfl⟩) (k_preS hR hS hA hE) rfl rfl hl.1 rfl (lv_room (Nat.le_of_ble_eq_true rfl)) dX4_orderOfHelpers_5 ⟨Nat.zero_le _, Nat.zero_le _⟩) hR hS hA (fun r5 M6 H locs h hR hS => ?_)
  refine lv_aload_n hx hb dX4_orderOfHelpers_8 rfl (lv_at hl 0 rfl) ?_
  obtain ⟨fs8, v9, hm10, hv11, h⟩ := h
  refine k_get (ci := 5) (C := RX4) (T := TX4) (N := 13) hx hb hts in_X4_orderOfHelpers_X4 hown hK hR hm10 rfl 0 (by decide) hw1 (fun _ h9 => h9) hv11 dX4_orderOfHelpers_9 ?_
  refine lv_iload_n hx hb dX4_orderOfHelpers_12 rfl (lv_at hl 2 rfl) ?_
  refine k_calli0 (va_runS (As := [.int p2]) (rest := [.ref v9, .int r5, .ref v2]) ⟨hx, hb, hml, hown, hts⟩ (c_X4_helperAt l G _ _ _ p2 h) (va_cwS 1 hts gX4_orderOfHelpers_X4_helperAt rfl rfl rfl (by decide +kernel) ⟨Nat.le_of_ble_eq_true rfl, Nat.le_of_ble_eq_true rfl⟩) (k_preS hR hS hA hE) rfl rfl hl.1 rfl (lv_room (Nat.le_of_ble_eq_true rfl)) dX4_orderOfHelpers_13 ⟨Nat.zero_le _, Nat.zero_le _⟩) hR hS hA (fun r12 M13 H locs h hR hS => ?_)
  refine k_calli0 (va_runS (As := [.ref v2, .int r5, .ref v9, .int r12]) (rest := []) ⟨hx, hb, hml, hown, hts⟩ (c_X4_orderOf l G _ _ _ v2 r5 v9 r12 h) (va_cwS 4 hts gX4_orderOfHelpers_X4_orderOf rfl rfl rfl (by decide +kernel) ⟨Nat.le_of_ble_eq_true rfl, Nat.le_of_ble_eq_true rfl⟩) (k_preS hR hS hA hE) rfl rfl hl.1 rfl (lv_room (Nat.le_of_ble_eq_true rfl)) dX4_orderOfHelpers_16 ⟨Nat.zero_le _, Nat.zero_le _⟩) hR hS hA (fun r15 M16 H locs h hR hS => ?_)
  exact k_reti hx hb hr hlocks rfl hR hS h dX4_orderOfHelpers_19

def wp_X4_clashes_L14 (G : k_G) (post : Int32 → k_M → Prop) (K4 : Nat → Int32 → Int32 → k_M → Prop) : Nat → Nat → Int32 → Int32 → Int32 → k_M → Prop
  | 0 => fun _ _ _ _ _ => False
  | n + 1 => fun x0 x1 x2 x3 M =>
  (((8 : Int32) ≤ x3 →
      K4 x0 x1 (x2 + (1 : Int32)) M) ∧
      (¬ (8 : Int32) ≤ x3 →
      (∃ fs6, M x0 = some (kO 5 fs6) ∧ wp_X4_isHelper G (fun r3 M4 =>
        ((r3 = 0 →
        (wp_X4_clashes_L14 G post K4 n) x0 (x1 + (0 : Int32)) x2 (x3 + (1 : Int32)) M4) ∧
        (¬ r3 = 0 →
        (∃ fs10, M4 x0 = some (kO 5 fs10) ∧ wp_X4_isHelper G (fun r7 M8 =>
          ((r7 = 0 →
          (wp_X4_clashes_L14 G post K4 n) x0 (x1 + (0 : Int32)) x2 (x3 + (1 : Int32)) M8) ∧
          (¬ r7 = 0 →
          (∃ fs14, M8 x0 = some (kO 5 fs14) ∧ wp_X4_orderOfHelpers G (fun r11 M12 =>
            ((¬ r11 = (3 : Int32) →
            (wp_X4_clashes_L14 G post K4 n) x0 (x1 + (0 : Int32)) x2 (x3 + (1 : Int32)) M12) ∧
            (r11 = (3 : Int32) →
            (wp_X4_clashes_L14 G post K4 n) x0 (x1 + (1 : Int32)) x2 (x3 + (1 : Int32)) M12))) x0 x2 x3 M8)))) x0 x3 M4)))) x0 x2 M)))
def wp_X4_clashes_L4 (G : k_G) (post : Int32 → k_M → Prop) : Nat → Nat → Int32 → Int32 → k_M → Prop
  | 0 => fun _ _ _ _ => False
  | n + 1 => fun x0 x1 x2 M =>
  (((8 : Int32) ≤ x2 →
      post x1 M) ∧
      (¬ (8 : Int32) ≤ x2 →
      ∃ k2, wp_X4_clashes_L14 G post (wp_X4_clashes_L4 G post n) k2 x0 x1 x2 (x2 + (1 : Int32)) M))
def wp_X4_clashes (G : k_G) (post : Int32 → k_M → Prop) (p0 : Nat) (M0 : k_M) : Prop :=
  ∃ k1, wp_X4_clashes_L4 G post k1 p0 (0 : Int32) (0 : Int32) M0
set_option maxHeartbeats 4000000 in
set_option maxRecDepth 100000 in
theorem c_X4_clashes (l : Launch) (G : k_G) (M0 : k_M) (sz : Nat) (post : Int32 → k_M → Prop) (p0 : Nat) (h : wp_X4_clashes G post p0 M0) : Met l yX4_clashes wsX4_clashes ({ frames := 2, cells := 0, slots := 0, locals := 48 }) (va_Pc [.ref p0] (kPre G M0 sz)) (va_Qi post (kB G M0 sz) (kA M0 sz)) 0 0 (kA M0 sz) := by
  refine Met.ofW (cc := cX4_clashes) (maxL := 4) (ret := (some .int)) (by decide) rfl ?_
  intro p e s m args below meth c s₁ B hml hv
  obtain ⟨rfl, hsz, hR, hE⟩ := hv
  have hx := B.exec
  have hb := B.bytes
  have hr := B.returns
  have hts := atoms_spec (ws := wsX4_clashes) B.pre
  have hown : s.vm.findClass RX4 = some m.cls := findClass_of_methodNamed B.named
  have hlocks := B.notSynchronized
  subst hsz
  have hK := hE.1
  have hA : ∀ q, s.heap.size ≤ q → kA M0 s.heap.size q := kA.new
  have hS : va_S (kA M0 s.heap.size) s.heap s.heap [] := va_S.rf
  have L14 : ∀ (K4 : Nat → Int32 → Int32 → k_M → Prop) (hK4 : ∀ (x0 : Nat) (x1 : Int32) (x2 : Int32) (M : k_M) (H : Heap) (locs : List Loc) (ls : Array Slot), K4 x0 x1 x2 M → lv_has ls 4 [(0, .ref x0), (1, .int x1), (2, .int x2)] → kR G M (kA M0 s.heap.size) H → va_S (kA M0 s.heap.size) s.heap H locs → W p l e (headSpec wsX4_clashes ({ frames := 2, cells := 0, slots := 0, locals := 48 })).room s m ([.ref p0] : List Value).toArray below meth c H locs 0 0 (MQ below (va_Qi post (kB G M0 s.heap.size) (kA M0 s.heap.size)) ([.ref p0] : List Value).toArray s 0 0 (kA M0 s.heap.size)) (F0 m 4 ls [])) (n : Nat), ∀ (x0 : Nat) (x1 : Int32) (x2 : Int32) (x3 : Int32) (M : k_M) (H : Heap) (locs : List Loc) (ls : Array Slot), wp_X4_clashes_L14 G post K4 n x0 x1 x2 x3 M → lv_has ls 4 [(0, .ref x0), (1, .int x1), (2, .int x2), (3, .int x3)] → kR G M (kA M0 s.heap.size) H → va_S (kA M0 s.heap.size) s.heap H locs → W p l e (headSpec wsX4_clashes ({ frames := 2, cells := 0, slots := 0, locals := 48 })).room s m ([.ref p0] : List Value).toArray below meth c H locs 0 0 (MQ below (va_Qi post (kB G M0 s.heap.size) (kA M0 s.heap.size)) ([.ref p0] : List Value).toArray s 0 0 (kA M0 s.heap.size)) (F0 m 14 ls []) := by
    intro K4 hK4 n
    induction n with
    | zero =>
      intro  x0 x1 x2 x3 M H locs ls h
      exact False.elim h
    | succ n ih =>
      intro  x0 x1 x2 x3 M H locs ls h hl hR hS
      refine lv_iload_n hx hb dX4_clashes_14 rfl (lv_at hl 3 rfl) ?_
      refine lv_bipush (v := (8 : Int32)) hx hb dX4_clashes_15 (by decide) ?_
      obtain ⟨ha, hb2⟩ := h
      refine lv_icmp_ge (tgt := 60) hx hb dX4_clashes_17 (by decide) (fun hc => ?_) (fun hc => ?_)
      · replace h := ha hc
        refine lv_iinc (v := (x2 + (1 : Int32))) (lv' := [(2, .int (x2 + (1 : Int32))), (0, .ref x0), (1, .int x1), (3, .int x3)]) hx hb dX4_clashes_60 hl (k := 2) rfl rfl (by decide) rfl (fun ls hl => ?_)
        refine lv_goto (tgt := 4) hx hb dX4_clashes_63 (by decide) ?_
        exact hK4 _ _ _ _ _ _ _ h (lv_sub hl [1, 2, 0] rfl) hR hS
      · replace h := hb2 hc
        refine lv_iload_n hx hb dX4_clashes_20 rfl (lv_at hl 1 rfl) ?_
        refine lv_aload_n hx hb dX4_clashes_21 rfl (lv_at hl 0 rfl) ?_
        refine lv_iload_n hx hb dX4_clashes_22 rfl (lv_at hl 2 rfl) ?_
        obtain ⟨fs6, hm5, h⟩ := h
        refine k_calli0 (va_runV (As := [.int x2]) (rest := [.int x1]) ⟨hx, hb, hml, hown, hts⟩ (c_X4_isHelper l G _ _ _ x0 x2 h) (cwV 1 hts gX4_clashes_X4_isHelper rfl rfl rfl (by decide +kernel) ⟨Nat.le_of_ble_eq_true rfl, Nat.le_of_ble_eq_true rfl⟩) (k_preV (q := (RX4, TX4, 13)) hm5 rfl hR hS hA hE) rfl rfl hl.1 rfl (lv_room (Nat.le_of_ble_eq_true rfl)) dX4_clashes_23 ⟨Nat.zero_le _, Nat.zero_le _⟩) hR hS hA (fun r3 M4 H locs h hR hS => ?_)
        obtain ⟨ha, hb2⟩ := h
        refine lv_if_eq (tgt := 51) hx hb dX4_clashes_26 (by decide) (fun hc => ?_) (fun hc => ?_)
        · replace h := ha hc
          refine lv_iconst (v := (0 : Int32)) hx hb dX4_clashes_51 (by decide) ?_
          refine lv_iadd hx hb dX4_clashes_52 ?_
          refine lv_istore_n (lv' := [(1, .int (x1 + (0 : Int32))), (0, .ref x0), (2, .int x2), (3, .int x3)]) hx hb dX4_clashes_53 rfl hl (by decide) rfl (fun ls hl => ?_)
          refine lv_iinc (v := (x3 + (1 : Int32))) (lv' := [(3, .int (x3 + (1 : Int32))), (1, .int (x1 + (0 : Int32))), (0, .ref x0), (2, .int x2)]) hx hb dX4_clashes_54 hl (k := 3) rfl rfl (by decide) rfl (fun ls hl => ?_)
          refine lv_goto (tgt := 14) hx hb dX4_clashes_57 (by decide) ?_
          exact ih _ _ _ _ _ _ _ _ h (lv_sub hl [2, 1, 3, 0] rfl) hR hS
        · replace h := hb2 hc
          refine lv_aload_n hx hb dX4_clashes_29 rfl (lv_at hl 0 rfl) ?_
          refine lv_iload_n hx hb dX4_clashes_30 rfl (lv_at hl 3 rfl) ?_
          obtain ⟨fs10, hm9, h⟩ := h
          refine k_calli0 (va_runV (As := [.int x3]) (rest := [.int x1]) ⟨hx, hb, hml, hown, hts⟩ (c_X4_isHelper l G _ _ _ x0 x3 h) (cwV 1 hts gX4_clashes_X4_isHelper rfl rfl rfl (by decide +kernel) ⟨Nat.le_of_ble_eq_true rfl, Nat.le_of_ble_eq_true rfl⟩) (k_preV (q := (RX4, TX4, 13)) hm9 rfl hR hS hA hE) rfl rfl hl.1 rfl (lv_room (Nat.le_of_ble_eq_true rfl)) dX4_clashes_31 ⟨Nat.zero_le _, Nat.zero_le _⟩) hR hS hA (fun r7 M8 H locs h hR hS => ?_)
          obtain ⟨ha, hb2⟩ := h
          refine lv_if_eq (tgt := 51) hx hb dX4_clashes_34 (by decide) (fun hc => ?_) (fun hc => ?_)
          · replace h := ha hc
            refine lv_iconst (v := (0 : Int32)) hx hb dX4_clashes_51 (by decide) ?_
            refine lv_iadd hx hb dX4_clashes_52 ?_
            refine lv_istore_n (lv' := [(1, .int (x1 + (0 : Int32))), (0, .ref x0), (2, .int x2), (3, .int x3)]) hx hb dX4_clashes_53 rfl hl (by decide) rfl (fun ls hl => ?_)
            refine lv_iinc (v := (x3 + (1 : Int32))) (lv' := [(3, .int (x3 + (1 : Int32))), (1, .int (x1 + (0 : Int32))), (0, .ref x0), (2, .int x2)]) hx hb dX4_clashes_54 hl (k := 3) rfl rfl (by decide) rfl (fun ls hl => ?_)
            refine lv_goto (tgt := 14) hx hb dX4_clashes_57 (by decide) ?_
            exact ih _ _ _ _ _ _ _ _ h (lv_sub hl [2, 1, 3, 0] rfl) hR hS
          · replace h := hb2 hc
            refine lv_aload_n hx hb dX4_clashes_37 rfl (lv_at hl 0 rfl) ?_
            refine lv_iload_n hx hb dX4_clashes_38 rfl (lv_at hl 2 rfl) ?_
            refine lv_iload_n hx hb dX4_clashes_39 rfl (lv_at hl 3 rfl) ?_
            obtain ⟨fs14, hm13, h⟩ := h
            refine k_calli0 (va_runV (As := [.int x2, .int x3]) (rest := [.int x1]) ⟨hx, hb, hml, hown, hts⟩ (c_X4_orderOfHelpers l G _ _ _ x0 x2 x3 h) (cwV 2 hts gX4_clashes_X4_orderOfHelpers rfl rfl rfl (by decide +kernel) ⟨Nat.le_of_ble_eq_true rfl, Nat.le_of_ble_eq_true rfl⟩) (k_preV (q := (RX4, TX4, 13)) hm13 rfl hR hS hA hE) rfl rfl hl.1 rfl (lv_room (Nat.le_of_ble_eq_true rfl)) dX4_clashes_40 ⟨Nat.zero_le _, Nat.zero_le _⟩) hR hS hA (fun r11 M12 H locs h hR hS => ?_)
            refine lv_iconst (v := (3 : Int32)) hx hb dX4_clashes_43 (by decide) ?_
            obtain ⟨ha, hb2⟩ := h
            refine lv_icmp_ne (tgt := 51) hx hb dX4_clashes_44 (by decide) (fun hc => ?_) (fun hc => ?_)
            · replace h := ha hc
              refine lv_iconst (v := (0 : Int32)) hx hb dX4_clashes_51 (by decide) ?_
              refine lv_iadd hx hb dX4_clashes_52 ?_
              refine lv_istore_n (lv' := [(1, .int (x1 + (0 : Int32))), (0, .ref x0), (2, .int x2), (3, .int x3)]) hx hb dX4_clashes_53 rfl hl (by decide) rfl (fun ls hl => ?_)
              refine lv_iinc (v := (x3 + (1 : Int32))) (lv' := [(3, .int (x3 + (1 : Int32))), (1, .int (x1 + (0 : Int32))), (0, .ref x0), (2, .int x2)]) hx hb dX4_clashes_54 hl (k := 3) rfl rfl (by decide) rfl (fun ls hl => ?_)
              refine lv_goto (tgt := 14) hx hb dX4_clashes_57 (by decide) ?_
              exact ih _ _ _ _ _ _ _ _ h (lv_sub hl [2, 1, 3, 0] rfl) hR hS
            · replace h := hb2 hc
              refine lv_iconst (v := (1 : Int32)) hx hb dX4_clashes_47 (by decide) ?_
              refine lv_goto (tgt := 52) hx hb dX4_clashes_48 (by decide) ?_
              refine lv_iadd hx hb dX4_clashes_52 ?_
              refine lv_istore_n (lv' := [(1, .int (x1 + (1 : Int32))), (0, .ref x0), (2, .int x2), (3, .int x3)]) hx hb dX4_clashes_53 rfl hl (by decide) rfl (fun ls hl => ?_)
              refine lv_iinc (v := (x3 + (1 : Int32))) (lv' := [(3, .int (x3 + (1 : Int32))), (1, .int (x1 + (1 : Int32))), (0, .ref x0), (2, .int x2)]) hx hb dX4_clashes_54 hl (k := 3) rfl rfl (by decide) rfl (fun ls hl => ?_)
              refine lv_goto (tgt := 14) hx hb dX4_clashes_57 (by decide) ?_
              exact ih _ _ _ _ _ _ _ _ h (lv_sub hl [2, 1, 3, 0] rfl) hR hS
  have L4 : ∀ (n : Nat), ∀ (x0 : Nat) (x1 : Int32) (x2 : Int32) (M : k_M) (H : Heap) (locs : List Loc) (ls : Array Slot), wp_X4_clashes_L4 G post n x0 x1 x2 M → lv_has ls 4 [(0, .ref x0), (1, .int x1), (2, .int x2)] → kR G M (kA M0 s.heap.size) H → va_S (kA M0 s.heap.size) s.heap H locs → W p l e (headSpec wsX4_clashes ({ frames := 2, cells := 0, slots := 0, locals := 48 })).room s m ([.ref p0] : List Value).toArray below meth c H locs 0 0 (MQ below (va_Qi post (kB G M0 s.heap.size) (kA M0 s.heap.size)) ([.ref p0] : List Value).toArray s 0 0 (kA M0 s.heap.size)) (F0 m 4 ls []) := by
    intro n
    induction n with
    | zero =>
      intro  x0 x1 x2 M H locs ls h
      exact False.elim h
    | succ n ih =>
      intro  x0 x1 x2 M H locs ls h hl hR hS
      refine lv_iload_n hx hb dX4_clashes_4 rfl (lv_at hl 2 rfl) ?_
      refine lv_bipush (v := (8 : Int32)) hx hb dX4_clashes_5 (by decide) ?_
      obtain ⟨ha, hb2⟩ := h
      refine lv_icmp_ge (tgt := 66) hx hb dX4_clashes_7 (by decide) (fun hc => ?_) (fun hc => ?_)
      · replace h := ha hc
        refine lv_iload_n hx hb dX4_clashes_66 rfl (lv_at hl 1 rfl) ?_
        exact k_reti hx hb hr hlocks rfl hR hS h dX4_clashes_67
      · replace h := hb2 hc
        refine lv_iload_n hx hb dX4_clashes_10 rfl (lv_at hl 2 rfl) ?_
        refine lv_iconst (v := (1 : Int32)) hx hb dX4_clashes_11 (by decide) ?_
        refine lv_iadd hx hb dX4_clashes_12 ?_
        refine lv_istore_n (lv' := [(3, .int (x2 + (1 : Int32))), (0, .ref x0), (1, .int x1), (2, .int x2)]) hx hb dX4_clashes_13 rfl hl (by decide) rfl (fun ls hl => ?_)
        obtain ⟨k2, h⟩ := h
        exact L14 _ ih k2 _ _ _ _ _ _ _ _ h (lv_sub hl [1, 2, 3, 0] rfl) hR hS
  have hl := lv_entry ([.ref p0]) (n := 4) (Nat.le_of_ble_eq_true rfl)
  rw [lg_entry_eq]
  generalize (lg_sl ([.ref p0]) ++ List.replicate (4 - (lg_sl ([.ref p0])).length) Slot.unset).toArray = ls at hl ⊢
  have hl : lv_has ls 4 [(0, .ref p0)] := hl
  have hR0 := hR
  refine lv_iconst (v := (0 : Int32)) hx hb dX4_clashes_0 (by decide) ?_
  refine lv_istore_n (lv' := [(1, .int (0 : Int32)), (0, .ref p0)]) hx hb dX4_clashes_1 rfl hl (by decide) rfl (fun ls hl => ?_)
  refine lv_iconst (v := (0 : Int32)) hx hb dX4_clashes_2 (by decide) ?_
  refine lv_istore_n (lv' := [(2, .int (0 : Int32)), (1, .int (0 : Int32)), (0, .ref p0)]) hx hb dX4_clashes_3 rfl hl (by decide) rfl (fun ls hl => ?_)
  obtain ⟨k1, h⟩ := h
  exact L4 k1 _ _ _ _ _ _ _ h (lv_sub hl [2, 1, 0] rfl) hR hS

def wp_X4_allKnots_L4 (G : k_G) (post : Int32 → k_M → Prop) : Nat → Nat → Int32 → Int32 → k_M → Prop
  | 0 => fun _ _ _ _ => False
  | n + 1 => fun x0 x1 x2 M =>
  (((8 : Int32) ≤ x2 →
      post x1 M) ∧
      (¬ (8 : Int32) ≤ x2 →
      (∃ fs5, M x0 = some (kO 5 fs5) ∧ wp_X4_isHelper G (fun r2 M3 =>
        ((r2 = 0 →
        (wp_X4_allKnots_L4 G post n) x0 (x1 + (0 : Int32)) (x2 + (1 : Int32)) M3) ∧
        (¬ r2 = 0 →
        (∃ fs6 v7, M3 x0 = some (kO 5 fs6) ∧ fs6[0]? = some (.ref v7) ∧
          wp_X4_helperAt G (fun r10 M11 =>
          wp_X4_knots G (fun r13 M14 =>
          (wp_X4_allKnots_L4 G post n) x0 (x1 + r13) (x2 + (1 : Int32)) M14) v7 r10 M11) x2 M3)))) x0 x2 M)))
def wp_X4_allKnots (G : k_G) (post : Int32 → k_M → Prop) (p0 : Nat) (M0 : k_M) : Prop :=
  ∃ k1, wp_X4_allKnots_L4 G post k1 p0 (0 : Int32) (0 : Int32) M0
theorem in_X4_allKnots_X4 : ∀ w ∈ wsX40, w ∈ wsX4_allKnots := by decide +kernel
set_option maxHeartbeats 4000000 in
set_option maxRecDepth 100000 in
theorem c_X4_allKnots (l : Launch) (G : k_G) (M0 : k_M) (sz : Nat) (post : Int32 → k_M → Prop) (p0 : Nat) (h : wp_X4_allKnots G post p0 M0) : Met l yX4_allKnots wsX4_allKnots ({ frames := 2, cells := 0, slots := 0, locals := 49 }) (va_Pc [.ref p0] (kPre G M0 sz)) (va_Qi post (kB G M0 sz) (kA M0 sz)) 0 0 (kA M0 sz) := by
  refine Met.ofW (cc := cX4_allKnots) (maxL := 3) (ret := (some .int)) (by decide) rfl ?_
  intro p e s m args below meth c s₁ B hml hv
  obtain ⟨rfl, hsz, hR, hE⟩ := hv
  have hx := B.exec
  have hb := B.bytes
  have hr := B.returns
  have hts := atoms_spec (ws := wsX4_allKnots) B.pre
  have hown : s.vm.findClass RX4 = some m.cls := findClass_of_methodNamed B.named
  have hlocks := B.notSynchronized
  subst hsz
  have hK := hE.1
  have hA : ∀ q, s.heap.size ≤ q → kA M0 s.heap.size q := kA.new
  have hS : va_S (kA M0 s.heap.size) s.heap s.heap [] := va_S.rf
  have hw1 := hts (.fieldLink RX4 7 "ForkedStampsModel" "state" "[I") (by decide +kernel)
  have L4 : ∀ (n : Nat), ∀ (x0 : Nat) (x1 : Int32) (x2 : Int32) (M : k_M) (H : Heap) (locs : List Loc) (ls : Array Slot), wp_X4_allKnots_L4 G post n x0 x1 x2 M → lv_has ls 3 [(0, .ref x0), (1, .int x1), (2, .int x2)] → kR G M (kA M0 s.heap.size) H → va_S (kA M0 s.heap.size) s.heap H locs → W p l e (headSpec wsX4_allKnots ({ frames := 2, cells := 0, slots := 0, locals := 49 })).room s m ([.ref p0] : List Value).toArray below meth c H locs 0 0 (MQ below (va_Qi post (kB G M0 s.heap.size) (kA M0 s.heap.size)) ([.ref p0] : List Value).toArray s 0 0 (kA M0 s.heap.size)) (F0 m 4 ls []) := by
    intro n
    induction n with
    | zero =>
      intro  x0 x1 x2 M H locs ls h
      exact False.elim h
    | succ n ih =>
      intro  x0 x1 x2 M H locs ls h hl hR hS
      refine lv_iload_n hx hb dX4_allKnots_4 rfl (lv_at hl 2 rfl) ?_
      refine lv_bipush (v := (8 : Int32)) hx hb dX4_allKnots_5 (by decide) ?_
      obtain ⟨ha, hb2⟩ := h
      refine lv_icmp_ge (tgt := 42) hx hb dX4_allKnots_7 (by decide) (fun hc => ?_) (fun hc => ?_)
      · replace h := ha hc
        refine lv_iload_n hx hb dX4_allKnots_42 rfl (lv_at hl 1 rfl) ?_
        exact k_reti hx hb hr hlocks rfl hR hS h dX4_allKnots_43
      · replace h := hb2 hc
        refine lv_iload_n hx hb dX4_allKnots_10 rfl (lv_at hl 1 rfl) ?_
        refine lv_aload_n hx hb dX4_allKnots_11 rfl (lv_at hl 0 rfl) ?_
        refine lv_iload_n hx hb dX4_allKnots_12 rfl (lv_at hl 2 rfl) ?_
        obtain ⟨fs5, hm4, h⟩ := h
        refine k_calli0 (va_runV (As := [.int x2]) (rest := [.int x1]) ⟨hx, hb, hml, hown, hts⟩ (c_X4_isHelper l G _ _ _ x0 x2 h) (cwV 1 hts gX4_allKnots_X4_isHelper rfl rfl rfl (by decide +kernel) ⟨Nat.le_of_ble_eq_true rfl, Nat.le_of_ble_eq_true rfl⟩) (k_preV (q := (RX4, TX4, 13)) hm4 rfl hR hS hA hE) rfl rfl hl.1 rfl (lv_room (Nat.le_of_ble_eq_true rfl)) dX4_allKnots_13 ⟨Nat.zero_le _, Nat.zero_le _⟩) hR hS hA (fun r2 M3 H locs h hR hS => ?_)
        obtain ⟨ha, hb2⟩ := h
        refine lv_if_eq (tgt := 33) hx hb dX4_allKnots_16 (by decide) (fun hc => ?_) (fun hc => ?_)
        · replace h := ha hc
          refine lv_iconst (v := (0 : Int32)) hx hb dX4_allKnots_33 (by decide) ?_
          refine lv_iadd hx hb dX4_allKnots_34 ?_
          refine lv_istore_n (lv' := [(1, .int (x1 + (0 : Int32))), (0, .ref x0), (2, .int x2)]) hx hb dX4_allKnots_35 rfl hl (by decide) rfl (fun ls hl => ?_)
          refine lv_iinc (v := (x2 + (1 : Int32))) (lv' := [(2, .int (x2 + (1 : Int32))), (1, .int (x1 + (0 : Int32))), (0, .ref x0)]) hx hb dX4_allKnots_36 hl (k := 2) rfl rfl (by decide) rfl (fun ls hl => ?_)
          refine lv_goto (tgt := 4) hx hb dX4_allKnots_39 (by decide) ?_
          exact ih _ _ _ _ _ _ _ h (lv_sub hl [2, 1, 0] rfl) hR hS
        · replace h := hb2 hc
          refine lv_aload_n hx hb dX4_allKnots_19 rfl (lv_at hl 0 rfl) ?_
          obtain ⟨fs6, v7, hm8, hv9, h⟩ := h
          refine k_get (ci := 5) (C := RX4) (T := TX4) (N := 13) hx hb hts in_X4_allKnots_X4 hown hK hR hm8 rfl 0 (by decide) hw1 (fun _ h9 => h9) hv9 dX4_allKnots_20 ?_
          refine lv_iload_n hx hb dX4_allKnots_23 rfl (lv_at hl 2 rfl) ?_
          refine k_calli0 (va_runS (As := [.int x2]) (rest := [.ref v7, .int x1]) ⟨hx, hb, hml, hown, hts⟩ (c_X4_helperAt l G _ _ _ x2 h) (va_cwS 1 hts gX4_allKnots_X4_helperAt rfl rfl rfl (by decide +kernel) ⟨Nat.le_of_ble_eq_true rfl, Nat.le_of_ble_eq_true rfl⟩) (k_preS hR hS hA hE) rfl rfl hl.1 rfl (lv_room (Nat.le_of_ble_eq_true rfl)) dX4_allKnots_24 ⟨Nat.zero_le _, Nat.zero_le _⟩) hR hS hA (fun r10 M11 H locs h hR hS => ?_)
          refine k_calli0 (va_runS (As := [.ref v7, .int r10]) (rest := [.int x1]) ⟨hx, hb, hml, hown, hts⟩ (c_X4_knots l G _ _ _ v7 r10 h) (va_cwS 2 hts gX4_allKnots_X4_knots rfl rfl rfl (by decide +kernel) ⟨Nat.le_of_ble_eq_true rfl, Nat.le_of_ble_eq_true rfl⟩) (k_preS hR hS hA hE) rfl rfl hl.1 rfl (lv_room (Nat.le_of_ble_eq_true rfl)) dX4_allKnots_27 ⟨Nat.zero_le _, Nat.zero_le _⟩) hR hS hA (fun r13 M14 H locs h hR hS => ?_)
          refine lv_goto (tgt := 34) hx hb dX4_allKnots_30 (by decide) ?_
          refine lv_iadd hx hb dX4_allKnots_34 ?_
          refine lv_istore_n (lv' := [(1, .int (x1 + r13)), (0, .ref x0), (2, .int x2)]) hx hb dX4_allKnots_35 rfl hl (by decide) rfl (fun ls hl => ?_)
          refine lv_iinc (v := (x2 + (1 : Int32))) (lv' := [(2, .int (x2 + (1 : Int32))), (1, .int (x1 + r13)), (0, .ref x0)]) hx hb dX4_allKnots_36 hl (k := 2) rfl rfl (by decide) rfl (fun ls hl => ?_)
          refine lv_goto (tgt := 4) hx hb dX4_allKnots_39 (by decide) ?_
          exact ih _ _ _ _ _ _ _ h (lv_sub hl [2, 1, 0] rfl) hR hS
  have hl := lv_entry ([.ref p0]) (n := 3) (Nat.le_of_ble_eq_true rfl)
  rw [lg_entry_eq]
  generalize (lg_sl ([.ref p0]) ++ List.replicate (3 - (lg_sl ([.ref p0])).length) Slot.unset).toArray = ls at hl ⊢
  have hl : lv_has ls 3 [(0, .ref p0)] := hl
  have hR0 := hR
  refine lv_iconst (v := (0 : Int32)) hx hb dX4_allKnots_0 (by decide) ?_
  refine lv_istore_n (lv' := [(1, .int (0 : Int32)), (0, .ref p0)]) hx hb dX4_allKnots_1 rfl hl (by decide) rfl (fun ls hl => ?_)
  refine lv_iconst (v := (0 : Int32)) hx hb dX4_allKnots_2 (by decide) ?_
  refine lv_istore_n (lv' := [(2, .int (0 : Int32)), (1, .int (0 : Int32)), (0, .ref p0)]) hx hb dX4_allKnots_3 rfl hl (by decide) rfl (fun ls hl => ?_)
  obtain ⟨k1, h⟩ := h
  exact L4 k1 _ _ _ _ _ _ _ h (lv_sub hl [2, 1, 0] rfl) hR hS

def wp_X4_isAhead_b36 (G : k_G) (post : Int32 → k_M → Prop) (K8 : Nat → Int32 → Int32 → Int32 → k_M → Prop) (x0 : Nat) (x1 : Int32) (x3 : Int32) (s0 : Int32) (M : k_M) : Prop :=
  ((s0 = 0 →
    K8 x0 x1 (1 : Int32) (x3 + (1 : Int32)) M) ∧
    (¬ s0 = 0 →
    ((¬ s0 = (1 : Int32) →
      K8 x0 x1 (0 : Int32) (x3 + (1 : Int32)) M) ∧
      (s0 = (1 : Int32) →
      K8 x0 x1 (1 : Int32) (x3 + (1 : Int32)) M))))
def wp_X4_isAhead_L8 (G : k_G) (post : Int32 → k_M → Prop) : Nat → Nat → Int32 → Int32 → Int32 → k_M → Prop
  | 0 => fun _ _ _ _ _ => False
  | n + 1 => fun x0 x1 x2 x3 M =>
  (((8 : Int32) ≤ x3 →
      (narrow .boolean (.int x2) = .int x2 ∧ post x2 M)) ∧
      (¬ (8 : Int32) ≤ x3 →
      ((x2 = 0 →
        (narrow .boolean (.int x2) = .int x2 ∧ post x2 M)) ∧
        (¬ x2 = 0 →
        (∃ fs11, M x0 = some (kO 5 fs11) ∧ wp_X4_isHelper G (fun r8 M9 =>
          ((r8 = 0 →
          wp_X4_isAhead_b36 G post (wp_X4_isAhead_L8 G post n) x0 x1 x3 (0 : Int32) M9) ∧
          (¬ r8 = 0 →
          (∃ fs15, M9 x0 = some (kO 5 fs15) ∧ wp_X4_orderOfHelpers G (fun r12 M13 =>
            wp_X4_isAhead_b36 G post (wp_X4_isAhead_L8 G post n) x0 x1 x3 r12 M13) x0 x3 x1 M9)))) x0 x3 M)))))
def wp_X4_isAhead (G : k_G) (post : Int32 → k_M → Prop) (p0 : Nat) (p1 : Int32) (M0 : k_M) : Prop :=
  (∃ fs4, M0 p0 = some (kO 5 fs4) ∧ wp_X4_isHelper G (fun r1 M2 =>
  ∃ k5, wp_X4_isAhead_L8 G post k5 p0 p1 r1 (0 : Int32) M2) p0 p1 M0)
set_option maxHeartbeats 4000000 in
set_option maxRecDepth 100000 in
theorem c_X4_isAhead (l : Launch) (G : k_G) (M0 : k_M) (sz : Nat) (post : Int32 → k_M → Prop) (p0 : Nat) (p1 : Int32) (h : wp_X4_isAhead G post p0 p1 M0) : Met l yX4_isAhead wsX4_isAhead ({ frames := 2, cells := 0, slots := 0, locals := 48 }) (va_Pc [.ref p0, .int p1] (kPre G M0 sz)) (va_Qi post (kB G M0 sz) (kA M0 sz)) 0 0 (kA M0 sz) := by
  refine Met.ofW (cc := cX4_isAhead) (maxL := 5) (ret := (some .boolean)) (by decide) rfl ?_
  intro p e s m args below meth c s₁ B hml hv
  obtain ⟨rfl, hsz, hR, hE⟩ := hv
  have hx := B.exec
  have hb := B.bytes
  have hr := B.returns
  have hts := atoms_spec (ws := wsX4_isAhead) B.pre
  have hown : s.vm.findClass RX4 = some m.cls := findClass_of_methodNamed B.named
  have hlocks := B.notSynchronized
  subst hsz
  have hK := hE.1
  have hA : ∀ q, s.heap.size ≤ q → kA M0 s.heap.size q := kA.new
  have hS : va_S (kA M0 s.heap.size) s.heap s.heap [] := va_S.rf
  have b36 : ∀ (K8 : Nat → Int32 → Int32 → Int32 → k_M → Prop) (hK8 : ∀ (x0 : Nat) (x1 : Int32) (x2 : Int32) (x3 : Int32) (M : k_M) (H : Heap) (locs : List Loc) (ls : Array Slot), K8 x0 x1 x2 x3 M → lv_has ls 5 [(0, .ref x0), (1, .int x1), (2, .int x2), (3, .int x3)] → kR G M (kA M0 s.heap.size) H → va_S (kA M0 s.heap.size) s.heap H locs → W p l e (headSpec wsX4_isAhead ({ frames := 2, cells := 0, slots := 0, locals := 48 })).room s m ([.ref p0, .int p1] : List Value).toArray below meth c H locs 0 0 (MQ below (va_Qi post (kB G M0 s.heap.size) (kA M0 s.heap.size)) ([.ref p0, .int p1] : List Value).toArray s 0 0 (kA M0 s.heap.size)) (F0 m 8 ls [])), ∀ (x0 : Nat) (x1 : Int32) (x3 : Int32) (s0 : Int32) (M : k_M) (H : Heap) (locs : List Loc) (ls : Array Slot), wp_X4_isAhead_b36 G post K8 x0 x1 x3 s0 M → lv_has ls 5 [(0, .ref x0), (1, .int x1), (3, .int x3)] → kR G M (kA M0 s.heap.size) H → va_S (kA M0 s.heap.size) s.heap H locs → W p l e (headSpec wsX4_isAhead ({ frames := 2, cells := 0, slots := 0, locals := 48 })).room s m ([.ref p0, .int p1] : List Value).toArray below meth c H locs 0 0 (MQ below (va_Qi post (kB G M0 s.heap.size) (kA M0 s.heap.size)) ([.ref p0, .int p1] : List Value).toArray s 0 0 (kA M0 s.heap.size)) (F0 m 36 ls [.int s0]) := by
    intro K8 hK8 x0 x1 x3 s0 M H locs ls h hl hR hS
    refine lv_istore (lv' := [(4, .int s0), (0, .ref x0), (1, .int x1), (3, .int x3)]) hx hb dX4_isAhead_36 hl (by decide) rfl (fun ls hl => ?_)
    refine lv_iload hx hb dX4_isAhead_38 (lv_at hl 0 rfl) ?_
    obtain ⟨ha, hb2⟩ := h
    refine lv_if_eq (tgt := 49) hx hb dX4_isAhead_40 (by decide) (fun hc => ?_) (fun hc => ?_)
    · replace h := ha hc
      refine lv_iconst (v := (1 : Int32)) hx hb dX4_isAhead_49 (by decide) ?_
      refine lv_goto (tgt := 54) hx hb dX4_isAhead_50 (by decide) ?_
      refine lv_istore_n (lv' := [(2, .int (1 : Int32)), (4, .int s0), (0, .ref x0), (1, .int x1), (3, .int x3)]) hx hb dX4_isAhead_54 rfl hl (by decide) rfl (fun ls hl => ?_)
      refine lv_iinc (v := (x3 + (1 : Int32))) (lv' := [(3, .int (x3 + (1 : Int32))), (2, .int (1 : Int32)), (4, .int s0), (0, .ref x0), (1, .int x1)]) hx hb dX4_isAhead_55 hl (k := 4) rfl rfl (by decide) rfl (fun ls hl => ?_)
      refine lv_goto (tgt := 8) hx hb dX4_isAhead_58 (by decide) ?_
      exact hK8 _ _ _ _ _ _ _ _ h (lv_sub hl [3, 4, 1, 0] rfl) hR hS
    · replace h := hb2 hc
      refine lv_iload hx hb dX4_isAhead_43 (lv_at hl 0 rfl) ?_
      refine lv_iconst (v := (1 : Int32)) hx hb dX4_isAhead_45 (by decide) ?_
      obtain ⟨ha, hb2⟩ := h
      refine lv_icmp_ne (tgt := 53) hx hb dX4_isAhead_46 (by decide) (fun hc => ?_) (fun hc => ?_)
      · replace h := ha hc
        refine lv_iconst (v := (0 : Int32)) hx hb dX4_isAhead_53 (by decide) ?_
        refine lv_istore_n (lv' := [(2, .int (0 : Int32)), (4, .int s0), (0, .ref x0), (1, .int x1), (3, .int x3)]) hx hb dX4_isAhead_54 rfl hl (by decide) rfl (fun ls hl => ?_)
        refine lv_iinc (v := (x3 + (1 : Int32))) (lv' := [(3, .int (x3 + (1 : Int32))), (2, .int (0 : Int32)), (4, .int s0), (0, .ref x0), (1, .int x1)]) hx hb dX4_isAhead_55 hl (k := 4) rfl rfl (by decide) rfl (fun ls hl => ?_)
        refine lv_goto (tgt := 8) hx hb dX4_isAhead_58 (by decide) ?_
        exact hK8 _ _ _ _ _ _ _ _ h (lv_sub hl [3, 4, 1, 0] rfl) hR hS
      · replace h := hb2 hc
        refine lv_iconst (v := (1 : Int32)) hx hb dX4_isAhead_49 (by decide) ?_
        refine lv_goto (tgt := 54) hx hb dX4_isAhead_50 (by decide) ?_
        refine lv_istore_n (lv' := [(2, .int (1 : Int32)), (4, .int s0), (0, .ref x0), (1, .int x1), (3, .int x3)]) hx hb dX4_isAhead_54 rfl hl (by decide) rfl (fun ls hl => ?_)
        refine lv_iinc (v := (x3 + (1 : Int32))) (lv' := [(3, .int (x3 + (1 : Int32))), (2, .int (1 : Int32)), (4, .int s0), (0, .ref x0), (1, .int x1)]) hx hb dX4_isAhead_55 hl (k := 4) rfl rfl (by decide) rfl (fun ls hl => ?_)
        refine lv_goto (tgt := 8) hx hb dX4_isAhead_58 (by decide) ?_
        exact hK8 _ _ _ _ _ _ _ _ h (lv_sub hl [3, 4, 1, 0] rfl) hR hS
  have L8 : ∀ (n : Nat), ∀ (x0 : Nat) (x1 : Int32) (x2 : Int32) (x3 : Int32) (M : k_M) (H : Heap) (locs : List Loc) (ls : Array Slot), wp_X4_isAhead_L8 G post n x0 x1 x2 x3 M → lv_has ls 5 [(0, .ref x0), (1, .int x1), (2, .int x2), (3, .int x3)] → kR G M (kA M0 s.heap.size) H → va_S (kA M0 s.heap.size) s.heap H locs → W p l e (headSpec wsX4_isAhead ({ frames := 2, cells := 0, slots := 0, locals := 48 })).room s m ([.ref p0, .int p1] : List Value).toArray below meth c H locs 0 0 (MQ below (va_Qi post (kB G M0 s.heap.size) (kA M0 s.heap.size)) ([.ref p0, .int p1] : List Value).toArray s 0 0 (kA M0 s.heap.size)) (F0 m 8 ls []) := by
    intro n
    induction n with
    | zero =>
      intro  x0 x1 x2 x3 M H locs ls h
      exact False.elim h
    | succ n ih =>
      intro  x0 x1 x2 x3 M H locs ls h hl hR hS
      refine lv_iload_n hx hb dX4_isAhead_8 rfl (lv_at hl 3 rfl) ?_
      refine lv_bipush (v := (8 : Int32)) hx hb dX4_isAhead_9 (by decide) ?_
      obtain ⟨ha, hb2⟩ := h
      refine lv_icmp_ge (tgt := 61) hx hb dX4_isAhead_11 (by decide) (fun hc => ?_) (fun hc => ?_)
      · replace h := ha hc
        refine lv_iload_n hx hb dX4_isAhead_61 rfl (lv_at hl 2 rfl) ?_
        obtain ⟨hn6, h⟩ := h
        exact k_reti hx hb hr hlocks hn6 hR hS h dX4_isAhead_62
      · replace h := hb2 hc
        refine lv_iload_n hx hb dX4_isAhead_14 rfl (lv_at hl 2 rfl) ?_
        obtain ⟨ha, hb2⟩ := h
        refine lv_if_eq (tgt := 61) hx hb dX4_isAhead_15 (by decide) (fun hc => ?_) (fun hc => ?_)
        · replace h := ha hc
          refine lv_iload_n hx hb dX4_isAhead_61 rfl (lv_at hl 2 rfl) ?_
          obtain ⟨hn7, h⟩ := h
          exact k_reti hx hb hr hlocks hn7 hR hS h dX4_isAhead_62
        · replace h := hb2 hc
          refine lv_aload_n hx hb dX4_isAhead_18 rfl (lv_at hl 0 rfl) ?_
          refine lv_iload_n hx hb dX4_isAhead_19 rfl (lv_at hl 3 rfl) ?_
          obtain ⟨fs11, hm10, h⟩ := h
          refine k_calli0 (va_runV (As := [.int x3]) (rest := []) ⟨hx, hb, hml, hown, hts⟩ (c_X4_isHelper l G _ _ _ x0 x3 h) (cwV 1 hts gX4_isAhead_X4_isHelper rfl rfl rfl (by decide +kernel) ⟨Nat.le_of_ble_eq_true rfl, Nat.le_of_ble_eq_true rfl⟩) (k_preV (q := (RX4, TX4, 13)) hm10 rfl hR hS hA hE) rfl rfl hl.1 rfl (lv_room (Nat.le_of_ble_eq_true rfl)) dX4_isAhead_20 ⟨Nat.zero_le _, Nat.zero_le _⟩) hR hS hA (fun r8 M9 H locs h hR hS => ?_)
          obtain ⟨ha, hb2⟩ := h
          refine lv_if_eq (tgt := 35) hx hb dX4_isAhead_23 (by decide) (fun hc => ?_) (fun hc => ?_)
          · replace h := ha hc
            refine lv_iconst (v := (0 : Int32)) hx hb dX4_isAhead_35 (by decide) ?_
            exact b36 _ ih _ _ _ _ _ _ _ _ h (lv_sub hl [0, 1, 3] rfl) hR hS
          · replace h := hb2 hc
            refine lv_aload_n hx hb dX4_isAhead_26 rfl (lv_at hl 0 rfl) ?_
            refine lv_iload_n hx hb dX4_isAhead_27 rfl (lv_at hl 3 rfl) ?_
            refine lv_iload_n hx hb dX4_isAhead_28 rfl (lv_at hl 1 rfl) ?_
            obtain ⟨fs15, hm14, h⟩ := h
            refine k_calli0 (va_runV (As := [.int x3, .int x1]) (rest := []) ⟨hx, hb, hml, hown, hts⟩ (c_X4_orderOfHelpers l G _ _ _ x0 x3 x1 h) (cwV 2 hts gX4_isAhead_X4_orderOfHelpers rfl rfl rfl (by decide +kernel) ⟨Nat.le_of_ble_eq_true rfl, Nat.le_of_ble_eq_true rfl⟩) (k_preV (q := (RX4, TX4, 13)) hm14 rfl hR hS hA hE) rfl rfl hl.1 rfl (lv_room (Nat.le_of_ble_eq_true rfl)) dX4_isAhead_29 ⟨Nat.zero_le _, Nat.zero_le _⟩) hR hS hA (fun r12 M13 H locs h hR hS => ?_)
            refine lv_goto (tgt := 36) hx hb dX4_isAhead_32 (by decide) ?_
            exact b36 _ ih _ _ _ _ _ _ _ _ h (lv_sub hl [0, 1, 3] rfl) hR hS
  have hl := lv_entry ([.ref p0, .int p1]) (n := 5) (Nat.le_of_ble_eq_true rfl)
  rw [lg_entry_eq]
  generalize (lg_sl ([.ref p0, .int p1]) ++ List.replicate (5 - (lg_sl ([.ref p0, .int p1])).length) Slot.unset).toArray = ls at hl ⊢
  have hl : lv_has ls 5 [(0, .ref p0), (1, .int p1)] := hl
  have hR0 := hR
  refine lv_aload_n hx hb dX4_isAhead_0 rfl (lv_at hl 0 rfl) ?_
  refine lv_iload_n hx hb dX4_isAhead_1 rfl (lv_at hl 1 rfl) ?_
  obtain ⟨fs4, hm3, h⟩ := h
  refine k_calli0 (va_runV (As := [.int p1]) (rest := []) ⟨hx, hb, hml, hown, hts⟩ (c_X4_isHelper l G _ _ _ p0 p1 h) (cwV 1 hts gX4_isAhead_X4_isHelper rfl rfl rfl (by decide +kernel) ⟨Nat.le_of_ble_eq_true rfl, Nat.le_of_ble_eq_true rfl⟩) (k_preV (q := (RX4, TX4, 13)) hm3 rfl hR hS hA hE) rfl rfl hl.1 rfl (lv_room (Nat.le_of_ble_eq_true rfl)) dX4_isAhead_2 ⟨Nat.zero_le _, Nat.zero_le _⟩) hR hS hA (fun r1 M2 H locs h hR hS => ?_)
  refine lv_istore_n (lv' := [(2, .int r1), (0, .ref p0), (1, .int p1)]) hx hb dX4_isAhead_5 rfl hl (by decide) rfl (fun ls hl => ?_)
  refine lv_iconst (v := (0 : Int32)) hx hb dX4_isAhead_6 (by decide) ?_
  refine lv_istore_n (lv' := [(3, .int (0 : Int32)), (2, .int r1), (0, .ref p0), (1, .int p1)]) hx hb dX4_isAhead_7 rfl hl (by decide) rfl (fun ls hl => ?_)
  obtain ⟨k5, h⟩ := h
  exact L8 k5 _ _ _ _ _ _ _ _ h (lv_sub hl [2, 3, 1, 0] rfl) hR hS

def wp_X4_leader_L6 (G : k_G) (post : Int32 → k_M → Prop) : Nat → Nat → Int32 → Int32 → k_M → Prop
  | 0 => fun _ _ _ _ => False
  | n + 1 => fun x0 x1 x2 M =>
  ((x2 < 0 →
      post x1 M) ∧
      (¬ x2 < 0 →
      (∃ fs5, M x0 = some (kO 5 fs5) ∧ wp_X4_isAhead G (fun r2 M3 =>
        ((r2 = 0 →
        (wp_X4_leader_L6 G post n) x0 x1 (x2 + (-1 : Int32)) M3) ∧
        (¬ r2 = 0 →
        (wp_X4_leader_L6 G post n) x0 x2 (x2 + (-1 : Int32)) M3))) x0 x2 M)))
def wp_X4_leader (G : k_G) (post : Int32 → k_M → Prop) (p0 : Nat) (M0 : k_M) : Prop :=
  ∃ k1, wp_X4_leader_L6 G post k1 p0 (-6 : Int32) (7 : Int32) M0
set_option maxHeartbeats 4000000 in
set_option maxRecDepth 100000 in
theorem c_X4_leader (l : Launch) (G : k_G) (M0 : k_M) (sz : Nat) (post : Int32 → k_M → Prop) (p0 : Nat) (h : wp_X4_leader G post p0 M0) : Met l yX4_leader wsX4_leader ({ frames := 3, cells := 0, slots := 0, locals := 72 }) (va_Pc [.ref p0] (kPre G M0 sz)) (va_Qi post (kB G M0 sz) (kA M0 sz)) 0 0 (kA M0 sz) := by
  refine Met.ofW (cc := cX4_leader) (maxL := 3) (ret := (some .int)) (by decide) rfl ?_
  intro p e s m args below meth c s₁ B hml hv
  obtain ⟨rfl, hsz, hR, hE⟩ := hv
  have hx := B.exec
  have hb := B.bytes
  have hr := B.returns
  have hts := atoms_spec (ws := wsX4_leader) B.pre
  have hown : s.vm.findClass RX4 = some m.cls := findClass_of_methodNamed B.named
  have hlocks := B.notSynchronized
  subst hsz
  have hK := hE.1
  have hA : ∀ q, s.heap.size ≤ q → kA M0 s.heap.size q := kA.new
  have hS : va_S (kA M0 s.heap.size) s.heap s.heap [] := va_S.rf
  have L6 : ∀ (n : Nat), ∀ (x0 : Nat) (x1 : Int32) (x2 : Int32) (M : k_M) (H : Heap) (locs : List Loc) (ls : Array Slot), wp_X4_leader_L6 G post n x0 x1 x2 M → lv_has ls 3 [(0, .ref x0), (1, .int x1), (2, .int x2)] → kR G M (kA M0 s.heap.size) H → va_S (kA M0 s.heap.size) s.heap H locs → W p l e (headSpec wsX4_leader ({ frames := 3, cells := 0, slots := 0, locals := 72 })).room s m ([.ref p0] : List Value).toArray below meth c H locs 0 0 (MQ below (va_Qi post (kB G M0 s.heap.size) (kA M0 s.heap.size)) ([.ref p0] : List Value).toArray s 0 0 (kA M0 s.heap.size)) (F0 m 6 ls []) := by
    intro n
    induction n with
    | zero =>
      intro  x0 x1 x2 M H locs ls h
      exact False.elim h
    | succ n ih =>
      intro  x0 x1 x2 M H locs ls h hl hR hS
      refine lv_iload_n hx hb dX4_leader_6 rfl (lv_at hl 2 rfl) ?_
      obtain ⟨ha, hb2⟩ := h
      refine lv_if_lt (tgt := 30) hx hb dX4_leader_7 (by decide) (fun hc => ?_) (fun hc => ?_)
      · replace h := ha hc
        refine lv_iload_n hx hb dX4_leader_30 rfl (lv_at hl 1 rfl) ?_
        exact k_reti hx hb hr hlocks rfl hR hS h dX4_leader_31
      · replace h := hb2 hc
        refine lv_aload_n hx hb dX4_leader_10 rfl (lv_at hl 0 rfl) ?_
        refine lv_iload_n hx hb dX4_leader_11 rfl (lv_at hl 2 rfl) ?_
        obtain ⟨fs5, hm4, h⟩ := h
        refine k_calli0 (va_runV (As := [.int x2]) (rest := []) ⟨hx, hb, hml, hown, hts⟩ (c_X4_isAhead l G _ _ _ x0 x2 h) (cwV 1 hts gX4_leader_X4_isAhead rfl rfl rfl (by decide +kernel) ⟨Nat.le_of_ble_eq_true rfl, Nat.le_of_ble_eq_true rfl⟩) (k_preV (q := (RX4, TX4, 13)) hm4 rfl hR hS hA hE) rfl rfl hl.1 rfl (lv_room (Nat.le_of_ble_eq_true rfl)) dX4_leader_12 ⟨Nat.zero_le _, Nat.zero_le _⟩) hR hS hA (fun r2 M3 H locs h hR hS => ?_)
        obtain ⟨ha, hb2⟩ := h
        refine lv_if_eq (tgt := 22) hx hb dX4_leader_15 (by decide) (fun hc => ?_) (fun hc => ?_)
        · replace h := ha hc
          refine lv_iload_n hx hb dX4_leader_22 rfl (lv_at hl 1 rfl) ?_
          refine lv_istore_n (lv' := [(1, .int x1), (0, .ref x0), (2, .int x2)]) hx hb dX4_leader_23 rfl hl (by decide) rfl (fun ls hl => ?_)
          refine lv_iinc (v := (x2 + (-1 : Int32))) (lv' := [(2, .int (x2 + (-1 : Int32))), (1, .int x1), (0, .ref x0)]) hx hb dX4_leader_24 hl (k := 2) rfl rfl (by decide) rfl (fun ls hl => ?_)
          refine lv_goto (tgt := 6) hx hb dX4_leader_27 (by decide) ?_
          exact ih _ _ _ _ _ _ _ h (lv_sub hl [2, 1, 0] rfl) hR hS
        · replace h := hb2 hc
          refine lv_iload_n hx hb dX4_leader_18 rfl (lv_at hl 2 rfl) ?_
          refine lv_goto (tgt := 23) hx hb dX4_leader_19 (by decide) ?_
          refine lv_istore_n (lv' := [(1, .int x2), (0, .ref x0), (2, .int x2)]) hx hb dX4_leader_23 rfl hl (by decide) rfl (fun ls hl => ?_)
          refine lv_iinc (v := (x2 + (-1 : Int32))) (lv' := [(2, .int (x2 + (-1 : Int32))), (1, .int x2), (0, .ref x0)]) hx hb dX4_leader_24 hl (k := 2) rfl rfl (by decide) rfl (fun ls hl => ?_)
          refine lv_goto (tgt := 6) hx hb dX4_leader_27 (by decide) ?_
          exact ih _ _ _ _ _ _ _ h (lv_sub hl [2, 1, 0] rfl) hR hS
  have hl := lv_entry ([.ref p0]) (n := 3) (Nat.le_of_ble_eq_true rfl)
  rw [lg_entry_eq]
  generalize (lg_sl ([.ref p0]) ++ List.replicate (3 - (lg_sl ([.ref p0])).length) Slot.unset).toArray = ls at hl ⊢
  have hl : lv_has ls 3 [(0, .ref p0)] := hl
  have hR0 := hR
  refine lv_bipush (v := (-6 : Int32)) hx hb dX4_leader_0 (by decide) ?_
  refine lv_istore_n (lv' := [(1, .int (-6 : Int32)), (0, .ref p0)]) hx hb dX4_leader_2 rfl hl (by decide) rfl (fun ls hl => ?_)
  refine lv_bipush (v := (7 : Int32)) hx hb dX4_leader_3 (by decide) ?_
  refine lv_istore_n (lv' := [(2, .int (7 : Int32)), (1, .int (-6 : Int32)), (0, .ref p0)]) hx hb dX4_leader_5 rfl hl (by decide) rfl (fun ls hl => ?_)
  obtain ⟨k1, h⟩ := h
  exact L6 k1 _ _ _ _ _ _ _ h (lv_sub hl [2, 1, 0] rfl) hR hS
