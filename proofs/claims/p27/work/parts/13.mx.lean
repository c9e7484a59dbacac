def wp_L_text_b257 (G : k_G) (mc ms : Nat) (post : Int32 → k_M → Prop) (K8 : Nat → Int32 → Nat → Int32 → Int32 → Int32 → Nat → Nat → k_M → Prop) (x0 : Nat) (x1 : Int32) (x2 : Nat) (x3 : Int32) (x4 : Int32) (x5 : Int32) (x9 : Int32) (kc : Nat) (ks : Nat) (M : k_M) : Prop :=
  (((16 : Int32) ≤ x9 →
    K8 x0 x1 x2 x3 x4 (x5 + (1 : Int32)) kc ks M) ∧
    (¬ (16 : Int32) ≤ x9 →
    (∃ fs31, M x0 = some (kO 4 fs31) ∧ (∃ mc26 ms27 : Nat, kc + mc26 ≤ mc ∧ ks + ms27 ≤ ms ∧ wp_X3_printed G mc26 ms27 (fun r28 M29 =>
      ((r28 = (44 : Int32) →
      K8 x0 x1 x2 (x3 + (1 : Int32)) x4 (x5 + (1 : Int32)) (kc + mc26) (ks + ms27) M29) ∧
      (¬ r28 = (44 : Int32) →
      (kc + mc26) ≤ mc ∧ (ks + ms27) ≤ ms ∧ post (-1 : Int32) M29))) x0 x1 x3 M))))
def wp_L_text_L214 (G : k_G) (mc ms : Nat) (post : Int32 → k_M → Prop) (K8 : Nat → Int32 → Nat → Int32 → Int32 → Int32 → Nat → Nat → k_M → Prop) : Nat → Nat → Int32 → Nat → Int32 → Int32 → Int32 → Int32 → Int32 → Nat → Nat → k_M → Prop
  | 0 => fun _ _ _ _ _ _ _ _ _ _ _ => False
  | n + 1 => fun x0 x1 x2 x3 x4 x5 x9 x10 kc ks M =>
  (((16 : Int32) < x10 →
      wp_L_text_b257 G mc ms post K8 x0 x1 x2 x3 x4 x5 x9 kc ks M) ∧
      (¬ (16 : Int32) < x10 →
      (¬ x10 = 0 ∧ ((¬ (x9 - x9 / x10 * x10) = 0 →
        wp_L_text_b257 G mc ms post K8 x0 x1 x2 x3 x4 x5 x9 kc ks M) ∧
        ((x9 - x9 / x10 * x10) = 0 →
        (∃ fs40, M x0 = some (kO 4 fs40) ∧ (∃ mc35 ms36 : Nat, kc + mc35 ≤ mc ∧ ks + ms36 ≤ ms ∧ wp_X3_printed G mc35 ms36 (fun r37 M38 =>
          ((r37 = (41 : Int32) →
          (wp_L_text_L214 G mc ms post K8 n) x0 x1 x2 (x3 + (1 : Int32)) (x4 + (-1 : Int32)) x5 x9 (x10 * (2 : Int32)) (kc + mc35) (ks + ms36) M38) ∧
          (¬ r37 = (41 : Int32) →
          (kc + mc35) ≤ mc ∧ (ks + ms36) ≤ ms ∧ post (-1 : Int32) M38))) x0 x1 x3 M)))))))
def wp_L_text_L161 (G : k_G) (mc ms : Nat) (post : Int32 → k_M → Prop) (K8 : Nat → Int32 → Nat → Int32 → Int32 → Int32 → Nat → Nat → k_M → Prop) : Nat → Nat → Int32 → Nat → Int32 → Int32 → Int32 → Int32 → Int32 → Int32 → Nat → Nat → k_M → Prop
  | 0 => fun _ _ _ _ _ _ _ _ _ _ _ _ => False
  | n + 1 => fun x0 x1 x2 x3 x4 x5 x7 x8 x9 kc ks M =>
  ((x9 ≤ 0 →
      ∃ k25, wp_L_text_L214 G mc ms post K8 k25 x0 x1 x2 x3 x4 x5 (x5 + x7) ((2 : Int32) * x7) kc ks M) ∧
      (¬ x9 ≤ 0 →
      (∃ fs48, M x0 = some (kO 4 fs48) ∧ (∃ mc43 ms44 : Nat, kc + mc43 ≤ mc ∧ ks + ms44 ≤ ms ∧ wp_X3_printed G mc43 ms44 (fun r45 M46 =>
        (¬ x9 = 0 ∧ ((r45 = ((48 : Int32) + ((x8 / x9) - (x8 / x9) / (10 : Int32) * (10 : Int32))) →
        (wp_L_text_L161 G mc ms post K8 n) x0 x1 x2 (x3 + (1 : Int32)) x4 x5 x7 x8 (x9 / (10 : Int32)) (kc + mc43) (ks + ms44) M46) ∧
        (¬ r45 = ((48 : Int32) + ((x8 / x9) - (x8 / x9) / (10 : Int32) * (10 : Int32))) →
        (kc + mc43) ≤ mc ∧ (ks + ms44) ≤ ms ∧ post (-1 : Int32) M46)))) x0 x1 x3 M))))
def wp_L_text_L90 (G : k_G) (mc ms : Nat) (post : Int32 → k_M → Prop) (K8 : Nat → Int32 → Nat → Int32 → Int32 → Int32 → Nat → Nat → k_M → Prop) : Nat → Nat → Int32 → Nat → Int32 → Int32 → Int32 → Int32 → Int32 → Nat → Nat → k_M → Prop
  | 0 => fun _ _ _ _ _ _ _ _ _ _ _ => False
  | n + 1 => fun x0 x1 x2 x3 x4 x5 x7 x8 kc ks M =>
  ((x8 ≤ x7 →
      (kc ≤ mc ∧ ks ≤ ms ∧ wp_L_height G (fun r19 M20 =>
        ((r19 ≤ (99 : Int32) →
        ((r19 ≤ (9 : Int32) →
          ∃ k24, wp_L_text_L161 G mc ms post K8 k24 x0 x1 x2 x3 x4 x5 x7 r19 (1 : Int32) kc ks M20) ∧
          (¬ r19 ≤ (9 : Int32) →
          ∃ k52, wp_L_text_L161 G mc ms post K8 k52 x0 x1 x2 x3 x4 x5 x7 r19 (10 : Int32) kc ks M20))) ∧
        (¬ r19 ≤ (99 : Int32) →
        ∃ k53, wp_L_text_L161 G mc ms post K8 k53 x0 x1 x2 x3 x4 x5 x7 r19 (100 : Int32) kc ks M20))) x1 x5 x2 M)) ∧
      (¬ x8 ≤ x7 →
      (∃ fs59, M x0 = some (kO 4 fs59) ∧ (∃ mc54 ms55 : Nat, kc + mc54 ≤ mc ∧ ks + ms55 ≤ ms ∧ wp_X3_printed G mc54 ms55 (fun r56 M57 =>
        ((r56 = (40 : Int32) →
        (wp_L_text_L90 G mc ms post K8 n) x0 x1 x2 (x3 + (1 : Int32)) (x4 + (1 : Int32)) x5 x7 (x8 / (2 : Int32)) (kc + mc54) (ks + ms55) M57) ∧
        (¬ r56 = (40 : Int32) →
        (kc + mc54) ≤ mc ∧ (ks + ms55) ≤ ms ∧ post (-1 : Int32) M57))) x0 x1 x3 M))))
def wp_L_text_L40 (G : k_G) (mc ms : Nat) (post : Int32 → k_M → Prop) (K8 : Nat → Int32 → Nat → Int32 → Int32 → Int32 → Nat → Nat → k_M → Prop) : Nat → Nat → Int32 → Nat → Int32 → Int32 → Int32 → Int32 → Int32 → Nat → Nat → k_M → Prop
  | 0 => fun _ _ _ _ _ _ _ _ _ _ _ => False
  | n + 1 => fun x0 x1 x2 x3 x4 x5 x6 x7 kc ks M =>
  (kc ≤ mc ∧ ks ≤ ms ∧ wp_L_alike G (fun r13 M14 =>
      ((¬ r13 = 0 →
      ((x5 ≤ 0 →
        ∃ k18, wp_L_text_L90 G mc ms post K8 k18 x0 x1 x2 x3 x4 x5 x7 x6 kc ks M14) ∧
        (¬ x5 ≤ 0 →
        (((16 : Int32) ≤ x6 →
          ∃ k62, wp_L_text_L90 G mc ms post K8 k62 x0 x1 x2 x3 x4 x5 x7 x6 kc ks M14) ∧
          (¬ (16 : Int32) ≤ x6 →
          (kc ≤ mc ∧ ks ≤ ms ∧ wp_L_inside G (fun r63 M64 =>
            ((r63 = 0 →
            ∃ k68, wp_L_text_L90 G mc ms post K8 k68 x0 x1 x2 x3 x4 x5 x7 x6 kc ks M64) ∧
            (¬ r63 = 0 →
            K8 x0 x1 x2 x3 x4 (x5 + (1 : Int32)) kc ks M64))) x1 x5 x2 M14)))))) ∧
      (r13 = 0 →
      (wp_L_text_L40 G mc ms post K8 n) x0 x1 x2 x3 x4 x5 x6 (x7 / (2 : Int32)) kc ks M14))) x1 x5 x7 x2 M)
def wp_L_text_L19 (G : k_G) (mc ms : Nat) (post : Int32 → k_M → Prop) (K8 : Nat → Int32 → Nat → Int32 → Int32 → Int32 → Nat → Nat → k_M → Prop) : Nat → Nat → Int32 → Nat → Int32 → Int32 → Int32 → Int32 → Nat → Nat → k_M → Prop
  | 0 => fun _ _ _ _ _ _ _ _ _ _ => False
  | n + 1 => fun x0 x1 x2 x3 x4 x5 x6 kc ks M =>
  (¬ x6 = 0 ∧ (((x5 - x5 / x6 * x6) = 0 →
      ∃ k12, wp_L_text_L40 G mc ms post K8 k12 x0 x1 x2 x3 x4 x5 x6 x6 kc ks M) ∧
      (¬ (x5 - x5 / x6 * x6) = 0 →
      (wp_L_text_L19 G mc ms post K8 n) x0 x1 x2 x3 x4 x5 (x6 / (2 : Int32)) kc ks M)))
def wp_L_text_L8 (G : k_G) (mc ms : Nat) (post : Int32 → k_M → Prop) : Nat → Nat → Int32 → Nat → Int32 → Int32 → Int32 → Nat → Nat → k_M → Prop
  | 0 => fun _ _ _ _ _ _ _ _ _ => False
  | n + 1 => fun x0 x1 x2 x3 x4 x5 kc ks M =>
  (((16 : Int32) ≤ x5 →
      ((¬ x4 = 0 →
        kc ≤ mc ∧ ks ≤ ms ∧ post (-1 : Int32) M) ∧
        (x4 = 0 →
        (∃ fs7, M x0 = some (kO 4 fs7) ∧ (∃ mc2 ms3 : Nat, kc + mc2 ≤ mc ∧ ks + ms3 ≤ ms ∧ wp_X3_printed G mc2 ms3 (fun r4 M5 =>
          ((¬ r4 = (-1 : Int32) →
          (kc + mc2) ≤ mc ∧ (ks + ms3) ≤ ms ∧ post (-1 : Int32) M5) ∧
          (r4 = (-1 : Int32) →
          (kc + mc2) ≤ mc ∧ (ks + ms3) ≤ ms ∧ post x3 M5))) x0 x1 x3 M))))) ∧
      (¬ (16 : Int32) ≤ x5 →
      ∃ k10, wp_L_text_L19 G mc ms post (wp_L_text_L8 G mc ms post n) k10 x0 x1 x2 x3 x4 x5 (16 : Int32) kc ks M))
def wp_L_text (G : k_G) (mc ms : Nat) (post : Int32 → k_M → Prop) (p0 : Nat) (p1 : Int32) (p2 : Nat) (M0 : k_M) : Prop :=
  ∃ k1, wp_L_text_L8 G mc ms post k1 p0 p1 p2 (0 : Int32) (0 : Int32) (0 : Int32) 0 0 M0
set_option maxHeartbeats 4000000 in
set_option maxRecDepth 100000 in
theorem c_L_text (l : Launch) (G : k_G) (mc ms : Nat) (M0 : k_M) (sz : Nat) (post : Int32 → k_M → Prop) (p0 : Nat) (p1 : Int32) (p2 : Nat) (h : wp_L_text G mc ms post p0 p1 p2 M0) : Met l yL_text wsL_text ({ frames := 15, cells := mc, slots := ms, locals := 339 }) (va_Pc [.ref p0, .int p1, .ref p2] (kPre G M0 sz)) (va_Qi post (kB G M0 sz) (kA M0 sz)) mc ms (kA M0 sz) := by
  refine Met.ofW (cc := cL_text) (maxL := 11) (ret := (some .int)) (by decide) rfl ?_
  intro p e s m args below meth c s₁ B hml hv
  obtain ⟨rfl, hsz, hR, hE⟩ := hv
  have hx := B.exec
  have hb := B.bytes
  have hr := B.returns
  have hts := atoms_spec (ws := wsL_text) B.pre
  have hown : s.vm.findClass RL = some m.cls := findClass_of_methodNamed B.named
  have hlocks := B.notSynchronized
  subst hsz
  have hK := hE.1
  have hA : ∀ q, s.heap.size ≤ q → kA M0 s.heap.size q := kA.new
  have hS : va_S (kA M0 s.heap.size) s.heap s.heap [] := va_S.rf
  have b257 : ∀ (K8 : Nat → Int32 → Nat → Int32 → Int32 → Int32 → Nat → Nat → k_M → Prop) (hK8 : ∀ (x0 : Nat) (x1 : Int32) (x2 : Nat) (x3 : Int32) (x4 : Int32) (x5 : Int32) (kc : Nat) (ks : Nat) (M : k_M) (H : Heap) (locs : List Loc) (ls : Array Slot), K8 x0 x1 x2 x3 x4 x5 kc ks M → lv_has ls 11 [(0, .ref x0), (1, .int x1), (2, .ref x2), (3, .int x3), (4, .int x4), (5, .int x5)] → kR G M (kA M0 s.heap.size) H → va_S (kA M0 s.heap.size) s.heap H locs → W p l e (headSpec wsL_text ({ frames := 15, cells := mc, slots := ms, locals := 339 })).room s m ([.ref p0, .int p1, .ref p2] : List Value).toArray below meth c H locs kc ks (MQ below (va_Qi post (kB G M0 s.heap.size) (kA M0 s.heap.size)) ([.ref p0, .int p1, .ref p2] : List Value).toArray s mc ms (kA M0 s.heap.size)) (F0 m 8 ls [])), ∀ (x0 : Nat) (x1 : Int32) (x2 : Nat) (x3 : Int32) (x4 : Int32) (x5 : Int32) (x9 : Int32) (kc : Nat) (ks : Nat) (M : k_M) (H : Heap) (locs : List Loc) (ls : Array Slot), wp_L_text_b257 G mc ms post K8 x0 x1 x2 x3 x4 x5 x9 kc ks M → lv_has ls 11 [(0, .ref x0), (1, .int x1), (2, .ref x2), (3, .int x3), (4, .int x4), (5, .int x5), (9, .int x9)] → kR G M (kA M0 s.heap.size) H → va_S (kA M0 s.heap.size) s.heap H locs → W p l e (headSpec wsL_text ({ frames := 15, cells := mc, slots := ms, locals := 339 })).room s m ([.ref p0, .int p1, .ref p2] : List Value).toArray below meth c H locs kc ks (MQ below (va_Qi post (kB G M0 s.heap.size) (kA M0 s.heap.size)) ([.ref p0, .int p1, .ref p2] : List Value).toArray s mc ms (kA M0 s.heap.size)) (F0 m 257 ls []) := by
    intro K8 hK8 x0 x1 x2 x3 x4 x5 x9 kc ks M H locs ls h hl hR hS
    refine lv_iload hx hb dL_text_257 (lv_at hl 6 rfl) ?_
    refine lv_bipush (v := (16 : Int32)) hx hb dL_text_259 (by decide) ?_
    obtain ⟨ha, hb2⟩ := h
    refine lv_icmp_ge (tgt := 280) hx hb dL_text_261 (by decide) (fun hc => ?_) (fun hc => ?_)
    · replace h := ha hc
      refine lv_iinc (v := (x5 + (1 : Int32))) (lv' := [(5, .int (x5 + (1 : Int32))), (0, .ref x0), (1, .int x1), (2, .ref x2), (3, .int x3), (4, .int x4), (9, .int x9)]) hx hb dL_text_280 hl (k := 5) rfl rfl (by decide) rfl (fun ls hl => ?_)
      refine lv_goto (tgt := 8) hx hb dL_text_283 (by decide) ?_
      exact hK8 _ _ _ _ _ _ _ _ _ _ _ _ h (lv_sub hl [1, 2, 3, 4, 5, 0] rfl) hR hS
    · replace h := hb2 hc
      refine lv_aload_n hx hb dL_text_264 rfl (lv_at hl 0 rfl) ?_
      refine lv_iload_n hx hb dL_text_265 rfl (lv_at hl 1 rfl) ?_
      refine lv_iload_n hx hb dL_text_266 rfl (lv_at hl 3 rfl) ?_
      refine lv_iinc (v := (x3 + (1 : Int32))) (lv' := [(3, .int (x3 + (1 : Int32))), (0, .ref x0), (1, .int x1), (2, .ref x2), (4, .int x4), (5, .int x5), (9, .int x9)]) hx hb dL_text_267 hl (k := 3) rfl rfl (by decide) rfl (fun ls hl => ?_)
      obtain ⟨fs31, hm30, h⟩ := h
      obtain ⟨mc26, ms27, hc32, hc33, h⟩ := h
      refine k_calli (va_runV (As := [.int x1, .int x3]) (rest := []) ⟨hx, hb, hml, hown, hts⟩ (c_X3_printed l G mc26 ms27 _ _ _ x0 x1 x3 h) (cwV 2 hts gL_text_X3_printed rfl rfl rfl (by decide +kernel) ⟨Nat.le_of_ble_eq_true rfl, Nat.le_of_ble_eq_true rfl⟩) (k_preV (q := (RX3, TX3, 8)) hm30 rfl hR hS hA hE) rfl rfl hl.1 rfl (lv_room (Nat.le_of_ble_eq_true rfl)) dL_text_270 ⟨hc32, hc33⟩) hR hS hA (fun r28 M29 H locs h hR hS => ?_)
      refine lv_bipush (v := (44 : Int32)) hx hb dL_text_273 (by decide) ?_
      obtain ⟨ha, hb2⟩ := h
      refine lv_icmp_eq (tgt := 280) hx hb dL_text_275 (by decide) (fun hc => ?_) (fun hc => ?_)
      · replace h := ha hc
        refine lv_iinc (v := (x5 + (1 : Int32))) (lv' := [(5, .int (x5 + (1 : Int32))), (3, .int (x3 + (1 : Int32))), (0, .ref x0), (1, .int x1), (2, .ref x2), (4, .int x4), (9, .int x9)]) hx hb dL_text_280 hl (k := 5) rfl rfl (by decide) rfl (fun ls hl => ?_)
        refine lv_goto (tgt := 8) hx hb dL_text_283 (by decide) ?_
        exact hK8 _ _ _ _ _ _ _ _ _ _ _ _ h (lv_sub hl [2, 3, 4, 1, 5, 0] rfl) hR hS
      · replace h := hb2 hc
        refine lv_iconst (v := (-1 : Int32)) hx hb dL_text_278 (by decide) ?_
        obtain ⟨hwc, hws, h⟩ := h
        refine W.widen (k := mc) (n := ms) hwc hws ?_
        exact k_reti hx hb hr hlocks rfl hR hS h dL_text_279
  have L214 : ∀ (K8 : Nat → Int32 → Nat → Int32 → Int32 → Int32 → Nat → Nat → k_M → Prop) (hK8 : ∀ (x0 : Nat) (x1 : Int32) (x2 : Nat) (x3 : Int32) (x4 : Int32) (x5 : Int32) (kc : Nat) (ks : Nat) (M : k_M) (H : Heap) (locs : List Loc) (ls : Array Slot), K8 x0 x1 x2 x3 x4 x5 kc ks M → lv_has ls 11 [(0, .ref x0), (1, .int x1), (2, .ref x2), (3, .int x3), (4, .int x4), (5, .int x5)] → kR G M (kA M0 s.heap.size) H → va_S (kA M0 s.heap.size) s.heap H locs → W p l e (headSpec wsL_text ({ frames := 15, cells := mc, slots := ms, locals := 339 })).room s m ([.ref p0, .int p1, .ref p2] : List Value).toArray below meth c H locs kc ks (MQ below (va_Qi post (kB G M0 s.heap.size) (kA M0 s.heap.size)) ([.ref p0, .int p1, .ref p2] : List Value).toArray s mc ms (kA M0 s.heap.size)) (F0 m 8 ls [])) (n : Nat), ∀ (x0 : Nat) (x1 : Int32) (x2 : Nat) (x3 : Int32) (x4 : Int32) (x5 : Int32) (x9 : Int32) (x10 : Int32) (kc : Nat) (ks : Nat) (M : k_M) (H : Heap) (locs : List Loc) (ls : Array Slot), wp_L_text_L214 G mc ms post K8 n x0 x1 x2 x3 x4 x5 x9 x10 kc ks M → lv_has ls 11 [(0, .ref x0), (1, .int x1), (2, .ref x2), (3, .int x3), (4, .int x4), (5, .int x5), (9, .int x9), (10, .int x10)] → kR G M (kA M0 s.heap.size) H → va_S (kA M0 s.heap.size) s.heap H locs → W p l e (headSpec wsL_text ({ frames := 15, cells := mc, slots := ms, locals := 339 })).room s m ([.ref p0, .int p1, .ref p2] : List Value).toArray below meth c H locs kc ks (MQ below (va_Qi post (kB G M0 s.heap.size) (kA M0 s.heap.size)) ([.ref p0, .int p1, .ref p2] : List Value).toArray s mc ms (kA M0 s.heap.size)) (F0 m 214 ls []) := by
    intro K8 hK8 n
    induction n with
    | zero =>
      intro  x0 x1 x2 x3 x4 x5 x9 x10 kc ks M H locs ls h
      exact False.elim h
    | succ n ih =>
      intro  x0 x1 x2 x3 x4 x5 x9 x10 kc ks M H locs ls h hl hR hS
      refine lv_iload hx hb dL_text_214 (lv_at hl 7 rfl) ?_
      refine lv_bipush (v := (16 : Int32)) hx hb dL_text_216 (by decide) ?_
      obtain ⟨ha, hb2⟩ := h
      refine lv_icmp_gt (tgt := 257) hx hb dL_text_218 (by decide) (fun hc => ?_) (fun hc => ?_)
      · replace h := ha hc
        exact b257 _ hK8 _ _ _ _ _ _ _ _ _ _ _ _ _ h (lv_sub hl [0, 1, 2, 3, 4, 5, 6] rfl) hR hS
      · replace h := hb2 hc
        refine lv_iload hx hb dL_text_221 (lv_at hl 6 rfl) ?_
        refine lv_iload hx hb dL_text_223 (lv_at hl 7 rfl) ?_
        obtain ⟨hz34, h⟩ := h
        refine lv_irem hx hb dL_text_225 hz34 ?_
        obtain ⟨ha, hb2⟩ := h
        refine lv_if_ne (tgt := 257) hx hb dL_text_226 (by decide) (fun hc => ?_) (fun hc => ?_)
        · replace h := ha hc
          exact b257 _ hK8 _ _ _ _ _ _ _ _ _ _ _ _ _ h (lv_sub hl [0, 1, 2, 3, 4, 5, 6] rfl) hR hS
        · replace h := hb2 hc
          refine lv_aload_n hx hb dL_text_229 rfl (lv_at hl 0 rfl) ?_
          refine lv_iload_n hx hb dL_text_230 rfl (lv_at hl 1 rfl) ?_
          refine lv_iload_n hx hb dL_text_231 rfl (lv_at hl 3 rfl) ?_
          refine lv_iinc (v := (x3 + (1 : Int32))) (lv' := [(3, .int (x3 + (1 : Int32))), (0, .ref x0), (1, .int x1), (2, .ref x2), (4, .int x4), (5, .int x5), (9, .int x9), (10, .int x10)]) hx hb dL_text_232 hl (k := 3) rfl rfl (by decide) rfl (fun ls hl => ?_)
          obtain ⟨fs40, hm39, h⟩ := h
          obtain ⟨mc35, ms36, hc41, hc42, h⟩ := h
          refine k_calli (va_runV (As := [.int x1, .int x3]) (rest := []) ⟨hx, hb, hml, hown, hts⟩ (c_X3_printed l G mc35 ms36 _ _ _ x0 x1 x3 h) (cwV 2 hts gL_text_X3_printed rfl rfl rfl (by decide +kernel) ⟨Nat.le_of_ble_eq_true rfl, Nat.le_of_ble_eq_true rfl⟩) (k_preV (q := (RX3, TX3, 8)) hm39 rfl hR hS hA hE) rfl rfl hl.1 rfl (lv_room (Nat.le_of_ble_eq_true rfl)) dL_text_235 ⟨hc41, hc42⟩) hR hS hA (fun r37 M38 H locs h hR hS => ?_)
          refine lv_bipush (v := (41 : Int32)) hx hb dL_text_238 (by decide) ?_
          obtain ⟨ha, hb2⟩ := h
          refine lv_icmp_eq (tgt := 245) hx hb dL_text_240 (by decide) (fun hc => ?_) (fun hc => ?_)
          · replace h := ha hc
            refine lv_iinc (v := (x4 + (-1 : Int32))) (lv' := [(4, .int (x4 + (-1 : Int32))), (3, .int (x3 + (1 : Int32))), (0, .ref x0), (1, .int x1), (2, .ref x2), (5, .int x5), (9, .int x9), (10, .int x10)]) hx hb dL_text_245 hl (k := 4) rfl rfl (by decide) rfl (fun ls hl => ?_)
            refine lv_iload hx hb dL_text_248 (lv_at hl 7 rfl) ?_
            refine lv_iconst (v := (2 : Int32)) hx hb dL_text_250 (by decide) ?_
            refine lv_imul hx hb dL_text_251 ?_
            refine lv_istore (lv' := [(10, .int (x10 * (2 : Int32))), (4, .int (x4 + (-1 : Int32))), (3, .int (x3 + (1 : Int32))), (0, .ref x0), (1, .int x1), (2, .ref x2), (5, .int x5), (9, .int x9)]) hx hb dL_text_252 hl (by decide) rfl (fun ls hl => ?_)
            refine lv_goto (tgt := 214) hx hb dL_text_254 (by decide) ?_
            exact ih _ _ _ _ _ _ _ _ _ _ _ _ _ _ h (lv_sub hl [3, 4, 5, 2, 1, 6, 7, 0] rfl) hR hS
          · replace h := hb2 hc
            refine lv_iconst (v := (-1 : Int32)) hx hb dL_text_243 (by decide) ?_
            obtain ⟨hwc, hws, h⟩ := h
            refine W.widen (k := mc) (n := ms) hwc hws ?_
            exact k_reti hx hb hr hlocks rfl hR hS h dL_text_244
  have L161 : ∀ (K8 : Nat → Int32 → Nat → Int32 → Int32 → Int32 → Nat → Nat → k_M → Prop) (hK8 : ∀ (x0 : Nat) (x1 : Int32) (x2 : Nat) (x3 : Int32) (x4 : Int32) (x5 : Int32) (kc : Nat) (ks : Nat) (M : k_M) (H : Heap) (locs : List Loc) (ls : Array Slot), K8 x0 x1 x2 x3 x4 x5 kc ks M → lv_has ls 11 [(0, .ref x0), (1, .int x1), (2, .ref x2), (3, .int x3), (4, .int x4), (5, .int x5)] → kR G M (kA M0 s.heap.size) H → va_S (kA M0 s.heap.size) s.heap H locs → W p l e (headSpec wsL_text ({ frames := 15, cells := mc, slots := ms, locals := 339 })).room s m ([.ref p0, .int p1, .ref p2] : List Value).toArray below meth c H locs kc ks (MQ below (va_Qi post (kB G M0 s.heap.size) (kA M0 s.heap.size)) ([.ref p0, .int p1, .ref p2] : List Value).toArray s mc ms (kA M0 s.heap.size)) (F0 m 8 ls [])) (n : Nat), ∀ (x0 : Nat) (x1 : Int32) (x2 : Nat) (x3 : Int32) (x4 : Int32) (x5 : Int32) (x7 : Int32) (x8 : Int32) (x9 : Int32) (kc : Nat) (ks : Nat) (M : k_M) (H : Heap) (locs : List Loc) (ls : Array Slot), wp_L_text_L161 G mc ms post K8 n x0 x1 x2 x3 x4 x5 x7 x8 x9 kc ks M → lv_has ls 11 [(0, .ref x0), (1, .int x1), (2, .ref x2), (3, .int x3), (4, .int x4), (5, .int x5), (7, .int x7), (8, .int x8), (9, .int x9)] → kR G M (kA M0 s.heap.size) H → va_S (kA M0 s.heap.size) s.heap H locs → W p l e (headSpec wsL_text ({ frames := 15, cells := mc, slots := ms, locals := 339 })).room s m ([.ref p0, .int p1, .ref p2] : List Value).toArray below meth c H locs kc ks (MQ below (va_Qi post (kB G M0 s.heap.size) (kA M0 s.heap.size)) ([.ref p0, .int p1, .ref p2] : List Value).toArray s mc ms (kA M0 s.heap.size)) (F0 m 161 ls []) := by
    intro K8 hK8 n
    induction n with
    | zero =>
      intro  x0 x1 x2 x3 x4 x5 x7 x8 x9 kc ks M H locs ls h
      exact False.elim h
    | succ n ih =>
      intro  x0 x1 x2 x3 x4 x5 x7 x8 x9 kc ks M H locs ls h hl hR hS
      refine lv_iload hx hb dL_text_161 (lv_at hl 8 rfl) ?_
      obtain ⟨ha, hb2⟩ := h
      refine lv_if_le (tgt := 201) hx hb dL_text_163 (by decide) (fun hc => ?_) (fun hc => ?_)
      · replace h := ha hc
        refine lv_iload hx hb dL_text_201 (lv_at hl 5 rfl) ?_
        refine lv_iload hx hb dL_text_203 (lv_at hl 6 rfl) ?_
        refine lv_iadd hx hb dL_text_205 ?_
        refine lv_istore (lv' := [(9, .int (x5 + x7)), (0, .ref x0), (1, .int x1), (2, .ref x2), (3, .int x3), (4, .int x4), (5, .int x5), (7, .int x7), (8, .int x8)]) hx hb dL_text_206 hl (by decide) rfl (fun ls hl => ?_)
        refine lv_iconst (v := (2 : Int32)) hx hb dL_text_208 (by decide) ?_
        refine lv_iload hx hb dL_text_209 (lv_at hl 7 rfl) ?_
        refine lv_imul hx hb dL_text_211 ?_
        refine lv_istore (lv' := [(10, .int ((2 : Int32) * x7)), (9, .int (x5 + x7)), (0, .ref x0), (1, .int x1), (2, .ref x2), (3, .int x3), (4, .int x4), (5, .int x5), (7, .int x7), (8, .int x8)]) hx hb dL_text_212 hl (by decide) rfl (fun ls hl => ?_)
        obtain ⟨k25, h⟩ := h
        exact L214 _ hK8 k25 _ _ _ _ _ _ _ _ _ _ _ _ _ _ h (lv_sub hl [2, 3, 4, 5, 6, 7, 1, 0] rfl) hR hS
      · replace h := hb2 hc
        refine lv_aload_n hx hb dL_text_166 rfl (lv_at hl 0 rfl) ?_
        refine lv_iload_n hx hb dL_text_167 rfl (lv_at hl 1 rfl) ?_
        refine lv_iload_n hx hb dL_text_168 rfl (lv_at hl 3 rfl) ?_
        refine lv_iinc (v := (x3 + (1 : Int32))) (lv' := [(3, .int (x3 + (1 : Int32))), (0, .ref x0), (1, .int x1), (2, .ref x2), (4, .int x4), (5, .int x5), (7, .int x7), (8, .int x8), (9, .int x9)]) hx hb dL_text_169 hl (k := 3) rfl rfl (by decide) rfl (fun ls hl => ?_)
        obtain ⟨fs48, hm47, h⟩ := h
        obtain ⟨mc43, ms44, hc49, hc50, h⟩ := h
        refine k_calli (va_runV (As := [.int x1, .int x3]) (rest := []) ⟨hx, hb, hml, hown, hts⟩ (c_X3_printed l G mc43 ms44 _ _ _ x0 x1 x3 h) (cwV 2 hts gL_text_X3_printed rfl rfl rfl (by decide +kernel) ⟨Nat.le_of_ble_eq_true rfl, Nat.le_of_ble_eq_true rfl⟩) (k_preV (q := (RX3, TX3, 8)) hm47 rfl hR hS hA hE) rfl rfl hl.1 rfl (lv_room (Nat.le_of_ble_eq_true rfl)) dL_text_172 ⟨hc49, hc50⟩) hR hS hA (fun r45 M46 H locs h hR hS => ?_)
        refine lv_bipush (v := (48 : Int32)) hx hb dL_text_175 (by decide) ?_
        refine lv_iload hx hb dL_text_177 (lv_at hl 7 rfl) ?_
        refine lv_iload hx hb dL_text_179 (lv_at hl 8 rfl) ?_
        obtain ⟨hz51, h⟩ := h
        refine lv_idiv hx hb dL_text_181 hz51 ?_
        refine lv_bipush (v := (10 : Int32)) hx hb dL_text_182 (by decide) ?_
        refine lv_irem hx hb dL_text_184 (by decide) ?_
        refine lv_iadd hx hb dL_text_185 ?_
        obtain ⟨ha, hb2⟩ := h
        refine lv_icmp_eq (tgt := 191) hx hb dL_text_186 (by decide) (fun hc => ?_) (fun hc => ?_)
        · replace h := ha hc
          refine lv_iload hx hb dL_text_191 (lv_at hl 8 rfl) ?_
          refine lv_bipush (v := (10 : Int32)) hx hb dL_text_193 (by decide) ?_
          refine lv_idiv hx hb dL_text_195 (by decide) ?_
          refine lv_istore (lv' := [(9, .int (x9 / (10 : Int32))), (3, .int (x3 + (1 : Int32))), (0, .ref x0), (1, .int x1), (2, .ref x2), (4, .int x4), (5, .int x5), (7, .int x7), (8, .int x8)]) hx hb dL_text_196 hl (by decide) rfl (fun ls hl => ?_)
          refine lv_goto (tgt := 161) hx hb dL_text_198 (by decide) ?_
          exact ih _ _ _ _ _ _ _ _ _ _ _ _ _ _ _ h (lv_sub hl [2, 3, 4, 1, 5, 6, 7, 8, 0] rfl) hR hS
        · replace h := hb2 hc
          refine lv_iconst (v := (-1 : Int32)) hx hb dL_text_189 (by decide) ?_
          obtain ⟨hwc, hws, h⟩ := h
          refine W.widen (k := mc) (n := ms) hwc hws ?_
          exact k_reti hx hb hr hlocks rfl hR hS h dL_text_190
  have L90 : ∀ (K8 : Nat → Int32 → Nat → Int32 → Int32 → Int32 → Nat → Nat → k_M → Prop) (hK8 : ∀ (x0 : Nat) (x1 : Int32) (x2 : Nat) (x3 : Int32) (x4 : Int32) (x5 : Int32) (kc : Nat) (ks : Nat) (M : k_M) (H : Heap) (locs : List Loc) (ls : Array Slot), K8 x0 x1 x2 x3 x4 x5 kc ks M → lv_has ls 11 [(0, .ref x0), (1, .int x1), (2, .ref x2), (3, .int x3), (4, .int x4), (5, .int x5)] → kR G M (kA M0 s.heap.size) H → va_S (kA M0 s.heap.size) s.heap H locs → W p l e (headSpec wsL_text ({ frames := 15, cells := mc, slots := ms, locals := 339 })).room s m ([.ref p0, .int p1, .ref p2] : List Value).toArray below meth c H locs kc ks (MQ below (va_Qi post (kB G M0 s.heap.size) (kA M0 s.heap.size)) ([.ref p0, .int p1, .ref p2] : List Value).toArray s mc ms (kA M0 s.heap.size)) (F0 m 8 ls [])) (n : Nat), ∀ (x0 : Nat) (x1 : Int32) (x2 : Nat) (x3 : Int32) (x4 : Int32) (x5 : Int32) (x7 : Int32) (x8 : Int32) (kc : Nat) (ks : Nat) (M : k_M) (H : Heap) (locs : List Loc) (ls : Array Slot), wp_L_text_L90 G mc ms post K8 n x0 x1 x2 x3 x4 x5 x7 x8 kc ks M → lv_has ls 11 [(0, .ref x0), (1, .int x1), (2, .ref x2), (3, .int x3), (4, .int x4), (5, .int x5), (7, .int x7), (8, .int x8)] → kR G M (kA M0 s.heap.size) H → va_S (kA M0 s.heap.size) s.heap H locs → W p l e (headSpec wsL_text ({ frames := 15, cells := mc, slots := ms, locals := 339 })).room s m ([.ref p0, .int p1, .ref p2] : List Value).toArray below meth c H locs kc ks (MQ below (va_Qi post (kB G M0 s.heap.size) (kA M0 s.heap.size)) ([.ref p0, .int p1, .ref p2] : List Value).toArray s mc ms (kA M0 s.heap.size)) (F0 m 90 ls []) := by
    intro K8 hK8 n
    induction n with
    | zero =>
      intro  x0 x1 x2 x3 x4 x5 x7 x8 kc ks M H locs ls h
      exact False.elim h
    | succ n ih =>
      intro  x0 x1 x2 x3 x4 x5 x7 x8 kc ks M H locs ls h hl hR hS
      refine lv_iload hx hb dL_text_90 (lv_at hl 7 rfl) ?_
      refine lv_iload hx hb dL_text_92 (lv_at hl 6 rfl) ?_
      obtain ⟨ha, hb2⟩ := h
      refine lv_icmp_le (tgt := 125) hx hb dL_text_94 (by decide) (fun hc => ?_) (fun hc => ?_)
      · replace h := ha hc
        refine lv_iload_n hx hb dL_text_125 rfl (lv_at hl 1 rfl) ?_
        refine lv_iload hx hb dL_text_126 (lv_at hl 5 rfl) ?_
        refine lv_aload_n hx hb dL_text_128 rfl (lv_at hl 2 rfl) ?_
        obtain ⟨hc22, hc23, h⟩ := h
        refine k_calli0 (va_runS (As := [.int x1, .int x5, .ref x2]) (rest := []) ⟨hx, hb, hml, hown, hts⟩ (c_L_height l G _ _ _ x1 x5 x2 h) (va_cwS 3 hts gL_text_L_height rfl rfl rfl (by decide +kernel) ⟨Nat.le_of_ble_eq_true rfl, Nat.le_of_ble_eq_true rfl⟩) (k_preS hR hS hA hE) rfl rfl hl.1 rfl (lv_room (Nat.le_of_ble_eq_true rfl)) dL_text_129 ⟨hc22, hc23⟩) hR hS hA (fun r19 M20 H locs h hR hS => ?_)
        refine lv_istore (lv' := [(8, .int r19), (0, .ref x0), (1, .int x1), (2, .ref x2), (3, .int x3), (4, .int x4), (5, .int x5), (7, .int x7)]) hx hb dL_text_132 hl (by decide) rfl (fun ls hl => ?_)
        refine lv_iload hx hb dL_text_134 (lv_at hl 0 rfl) ?_
        refine lv_bipush (v := (99 : Int32)) hx hb dL_text_136 (by decide) ?_
        obtain ⟨ha, hb2⟩ := h
        refine lv_icmp_le (tgt := 146) hx hb dL_text_138 (by decide) (fun hc => ?_) (fun hc => ?_)
        · replace h := ha hc
          refine lv_iload hx hb dL_text_146 (lv_at hl 0 rfl) ?_
          refine lv_bipush (v := (9 : Int32)) hx hb dL_text_148 (by decide) ?_
          obtain ⟨ha, hb2⟩ := h
          refine lv_icmp_le (tgt := 158) hx hb dL_text_150 (by decide) (fun hc => ?_) (fun hc => ?_)
          · replace h := ha hc
            refine lv_iconst (v := (1 : Int32)) hx hb dL_text_158 (by decide) ?_
            refine lv_istore (lv' := [(9, .int (1 : Int32)), (8, .int r19), (0, .ref x0), (1, .int x1), (2, .ref x2), (3, .int x3), (4, .int x4), (5, .int x5), (7, .int x7)]) hx hb dL_text_159 hl (by decide) rfl (fun ls hl => ?_)
            obtain ⟨k24, h⟩ := h
            exact L161 _ hK8 k24 _ _ _ _ _ _ _ _ _ _ _ _ _ _ _ h (lv_sub hl [2, 3, 4, 5, 6, 7, 8, 1, 0] rfl) hR hS
          · replace h := hb2 hc
            refine lv_bipush (v := (10 : Int32)) hx hb dL_text_153 (by decide) ?_
            refine lv_goto (tgt := 159) hx hb dL_text_155 (by decide) ?_
            refine lv_istore (lv' := [(9, .int (10 : Int32)), (8, .int r19), (0, .ref x0), (1, .int x1), (2, .ref x2), (3, .int x3), (4, .int x4), (5, .int x5), (7, .int x7)]) hx hb dL_text_159 hl (by decide) rfl (fun ls hl => ?_)
            obtain ⟨k52, h⟩ := h
            exact L161 _ hK8 k52 _ _ _ _ _ _ _ _ _ _ _ _ _ _ _ h (lv_sub hl [2, 3, 4, 5, 6, 7, 8, 1, 0] rfl) hR hS
        · replace h := hb2 hc
          refine lv_bipush (v := (100 : Int32)) hx hb dL_text_141 (by decide) ?_
          refine lv_goto (tgt := 159) hx hb dL_text_143 (by decide) ?_
          refine lv_istore (lv' := [(9, .int (100 : Int32)), (8, .int r19), (0, .ref x0), (1, .int x1), (2, .ref x2), (3, .int x3), (4, .int x4), (5, .int x5), (7, .int x7)]) hx hb dL_text_159 hl (by decide) rfl (fun ls hl => ?_)
          obtain ⟨k53, h⟩ := h
          exact L161 _ hK8 k53 _ _ _ _ _ _ _ _ _ _ _ _ _ _ _ h (lv_sub hl [2, 3, 4, 5, 6, 7, 8, 1, 0] rfl) hR hS
      · replace h := hb2 hc
        refine lv_aload_n hx hb dL_text_97 rfl (lv_at hl 0 rfl) ?_
        refine lv_iload_n hx hb dL_text_98 rfl (lv_at hl 1 rfl) ?_
        refine lv_iload_n hx hb dL_text_99 rfl (lv_at hl 3 rfl) ?_
        refine lv_iinc (v := (x3 + (1 : Int32))) (lv' := [(3, .int (x3 + (1 : Int32))), (0, .ref x0), (1, .int x1), (2, .ref x2), (4, .int x4), (5, .int x5), (7, .int x7), (8, .int x8)]) hx hb dL_text_100 hl (k := 3) rfl rfl (by decide) rfl (fun ls hl => ?_)
        obtain ⟨fs59, hm58, h⟩ := h
        obtain ⟨mc54, ms55, hc60, hc61, h⟩ := h
        refine k_calli (va_runV (As := [.int x1, .int x3]) (rest := []) ⟨hx, hb, hml, hown, hts⟩ (c_X3_printed l G mc54 ms55 _ _ _ x0 x1 x3 h) (cwV 2 hts gL_text_X3_printed rfl rfl rfl (by decide +kernel) ⟨Nat.le_of_ble_eq_true rfl, Nat.le_of_ble_eq_true rfl⟩) (k_preV (q := (RX3, TX3, 8)) hm58 rfl hR hS hA hE) rfl rfl hl.1 rfl (lv_room (Nat.le_of_ble_eq_true rfl)) dL_text_103 ⟨hc60, hc61⟩) hR hS hA (fun r56 M57 H locs h hR hS => ?_)
        refine lv_bipush (v := (40 : Int32)) hx hb dL_text_106 (by decide) ?_
        obtain ⟨ha, hb2⟩ := h
        refine lv_icmp_eq (tgt := 113) hx hb dL_text_108 (by decide) (fun hc => ?_) (fun hc => ?_)
        · replace h := ha hc
          refine lv_iinc (v := (x4 + (1 : Int32))) (lv' := [(4, .int (x4 + (1 : Int32))), (3, .int (x3 + (1 : Int32))), (0, .ref x0), (1, .int x1), (2, .ref x2), (5, .int x5), (7, .int x7), (8, .int x8)]) hx hb dL_text_113 hl (k := 4) rfl rfl (by decide) rfl (fun ls hl => ?_)
          refine lv_iload hx hb dL_text_116 (lv_at hl 7 rfl) ?_
          refine lv_iconst (v := (2 : Int32)) hx hb dL_text_118 (by decide) ?_
          refine lv_idiv hx hb dL_text_119 (by decide) ?_
          refine lv_istore (lv' := [(8, .int (x8 / (2 : Int32))), (4, .int (x4 + (1 : Int32))), (3, .int (x3 + (1 : Int32))), (0, .ref x0), (1, .int x1), (2, .ref x2), (5, .int x5), (7, .int x7)]) hx hb dL_text_120 hl (by decide) rfl (fun ls hl => ?_)
          refine lv_goto (tgt := 90) hx hb dL_text_122 (by decide) ?_
          exact ih _ _ _ _ _ _ _ _ _ _ _ _ _ _ h (lv_sub hl [3, 4, 5, 2, 1, 6, 7, 0] rfl) hR hS
        · replace h := hb2 hc
          refine lv_iconst (v := (-1 : Int32)) hx hb dL_text_111 (by decide) ?_
          obtain ⟨hwc, hws, h⟩ := h
          refine W.widen (k := mc) (n := ms) hwc hws ?_
          exact k_reti hx hb hr hlocks rfl hR hS h dL_text_112
  have L40 : ∀ (K8 : Nat → Int32 → Nat → Int32 → Int32 → Int32 → Nat → Nat → k_M → Prop) (hK8 : ∀ (x0 : Nat) (x1 : Int32) (x2 : Nat) (x3 : Int32) (x4 : Int32) (x5 : Int32) (kc : Nat) (ks : Nat) (M : k_M) (H : Heap) (locs : List Loc) (ls : Array Slot), K8 x0 x1 x2 x3 x4 x5 kc ks M → lv_has ls 11 [(0, .ref x0), (1, .int x1), (2, .ref x2), (3, .int x3), (4, .int x4), (5, .int x5)] → kR G M (kA M0 s.heap.size) H → va_S (kA M0 s.heap.size) s.heap H locs → W p l e (headSpec wsL_text ({ frames := 15, cells := mc, slots := ms, locals := 339 })).room s m ([.ref p0, .int p1, .ref p2] : List Value).toArray below meth c H locs kc ks (MQ below (va_Qi post (kB G M0 s.heap.size) (kA M0 s.heap.size)) ([.ref p0, .int p1, .ref p2] : List Value).toArray s mc ms (kA M0 s.heap.size)) (F0 m 8 ls [])) (n : Nat), ∀ (x0 : Nat) (x1 : Int32) (x2 : Nat) (x3 : Int32) (x4 : Int32) (x5 : Int32) (x6 : Int32) (x7 : Int32) (kc : Nat) (ks : Nat) (M : k_M) (H : Heap) (locs : List Loc) (ls : Array Slot), wp_L_text_L40 G mc ms post K8 n x0 x1 x2 x3 x4 x5 x6 x7 kc ks M → lv_has ls 11 [(0, .ref x0), (1, .int x1), (2, .ref x2), (3, .int x3), (4, .int x4), (5, .int x5), (6, .int x6), (7, .int x7)] → kR G M (kA M0 s.heap.size) H → va_S (kA M0 s.heap.size) s.heap H locs → W p l e (headSpec wsL_text ({ frames := 15, cells := mc, slots := ms, locals := 339 })).room s m ([.ref p0, .int p1, .ref p2] : List Value).toArray below meth c H locs kc ks (MQ below (va_Qi post (kB G M0 s.heap.size) (kA M0 s.heap.size)) ([.ref p0, .int p1, .ref p2] : List Value).toArray s mc ms (kA M0 s.heap.size)) (F0 m 40 ls []) := by
    intro K8 hK8 n
    induction n with
    | zero =>
      intro  x0 x1 x2 x3 x4 x5 x6 x7 kc ks M H locs ls h
      exact False.elim h
    | succ n ih =>
      intro  x0 x1 x2 x3 x4 x5 x6 x7 kc ks M H locs ls h hl hR hS
      refine lv_iload_n hx hb dL_text_40 rfl (lv_at hl 1 rfl) ?_
      refine lv_iload hx hb dL_text_41 (lv_at hl 5 rfl) ?_
      refine lv_iload hx hb dL_text_43 (lv_at hl 7 rfl) ?_
      refine lv_aload_n hx hb dL_text_45 rfl (lv_at hl 2 rfl) ?_
      obtain ⟨hc16, hc17, h⟩ := h
      refine k_calli0 (va_runS (As := [.int x1, .int x5, .int x7, .ref x2]) (rest := []) ⟨hx, hb, hml, hown, hts⟩ (c_L_alike l G _ _ _ x1 x5 x7 x2 h) (va_cwS 4 hts gL_text_L_alike rfl rfl rfl (by decide +kernel) ⟨Nat.le_of_ble_eq_true rfl, Nat.le_of_ble_eq_true rfl⟩) (k_preS hR hS hA hE) rfl rfl hl.1 rfl (lv_room (Nat.le_of_ble_eq_true rfl)) dL_text_46 ⟨hc16, hc17⟩) hR hS hA (fun r13 M14 H locs h hR hS => ?_)
      obtain ⟨ha, hb2⟩ := h
      refine lv_if_ne (tgt := 61) hx hb dL_text_49 (by decide) (fun hc => ?_) (fun hc => ?_)
      · replace h := ha hc
        refine lv_iload hx hb dL_text_61 (lv_at hl 5 rfl) ?_
        obtain ⟨ha, hb2⟩ := h
        refine lv_if_le (tgt := 86) hx hb dL_text_63 (by decide) (fun hc => ?_) (fun hc => ?_)
        · replace h := ha hc
          refine lv_iload hx hb dL_text_86 (lv_at hl 6 rfl) ?_
          refine lv_istore (lv' := [(8, .int x6), (0, .ref x0), (1, .int x1), (2, .ref x2), (3, .int x3), (4, .int x4), (5, .int x5), (6, .int x6), (7, .int x7)]) hx hb dL_text_88 hl (by decide) rfl (fun ls hl => ?_)
          obtain ⟨k18, h⟩ := h
          exact L90 _ hK8 k18 _ _ _ _ _ _ _ _ _ _ _ _ _ _ h (lv_sub hl [1, 2, 3, 4, 5, 6, 8, 0] rfl) hR hS
        · replace h := hb2 hc
          refine lv_iload hx hb dL_text_66 (lv_at hl 6 rfl) ?_
          refine lv_bipush (v := (16 : Int32)) hx hb dL_text_68 (by decide) ?_
          obtain ⟨ha, hb2⟩ := h
          refine lv_icmp_ge (tgt := 86) hx hb dL_text_70 (by decide) (fun hc => ?_) (fun hc => ?_)
          · replace h := ha hc
            refine lv_iload hx hb dL_text_86 (lv_at hl 6 rfl) ?_
            refine lv_istore (lv' := [(8, .int x6), (0, .ref x0), (1, .int x1), (2, .ref x2), (3, .int x3), (4, .int x4), (5, .int x5), (6, .int x6), (7, .int x7)]) hx hb dL_text_88 hl (by decide) rfl (fun ls hl => ?_)
            obtain ⟨k62, h⟩ := h
            exact L90 _ hK8 k62 _ _ _ _ _ _ _ _ _ _ _ _ _ _ h (lv_sub hl [1, 2, 3, 4, 5, 6, 8, 0] rfl) hR hS
          · replace h := hb2 hc
            refine lv_iload_n hx hb dL_text_73 rfl (lv_at hl 1 rfl) ?_
            refine lv_iload hx hb dL_text_74 (lv_at hl 5 rfl) ?_
            refine lv_aload_n hx hb dL_text_76 rfl (lv_at hl 2 rfl) ?_
            obtain ⟨hc66, hc67, h⟩ := h
            refine k_calli0 (va_runS (As := [.int x1, .int x5, .ref x2]) (rest := []) ⟨hx, hb, hml, hown, hts⟩ (c_L_inside l G _ _ _ x1 x5 x2 h) (va_cwS 3 hts gL_text_L_inside rfl rfl rfl (by decide +kernel) ⟨Nat.le_of_ble_eq_true rfl, Nat.le_of_ble_eq_true rfl⟩) (k_preS hR hS hA hE) rfl rfl hl.1 rfl (lv_room (Nat.le_of_ble_eq_true rfl)) dL_text_77 ⟨hc66, hc67⟩) hR hS hA (fun r63 M64 H locs h hR hS => ?_)
            obtain ⟨ha, hb2⟩ := h
            refine lv_if_eq (tgt := 86) hx hb dL_text_80 (by decide) (fun hc => ?_) (fun hc => ?_)
            · replace h := ha hc
              refine lv_iload hx hb dL_text_86 (lv_at hl 6 rfl) ?_
              refine lv_istore (lv' := [(8, .int x6), (0, .ref x0), (1, .int x1), (2, .ref x2), (3, .int x3), (4, .int x4), (5, .int x5), (6, .int x6), (7, .int x7)]) hx hb dL_text_88 hl (by decide) rfl (fun ls hl => ?_)
              obtain ⟨k68, h⟩ := h
              exact L90 _ hK8 k68 _ _ _ _ _ _ _ _ _ _ _ _ _ _ h (lv_sub hl [1, 2, 3, 4, 5, 6, 8, 0] rfl) hR hS
            · replace h := hb2 hc
              refine lv_goto (tgt := 280) hx hb dL_text_83 (by decide) ?_
              refine lv_iinc (v := (x5 + (1 : Int32))) (lv' := [(5, .int (x5 + (1 : Int32))), (0, .ref x0), (1, .int x1), (2, .ref x2), (3, .int x3), (4, .int x4), (6, .int x6), (7, .int x7)]) hx hb dL_text_280 hl (k := 5) rfl rfl (by decide) rfl (fun ls hl => ?_)
              refine lv_goto (tgt := 8) hx hb dL_text_283 (by decide) ?_
              exact hK8 _ _ _ _ _ _ _ _ _ _ _ _ h (lv_sub hl [1, 2, 3, 4, 5, 0] rfl) hR hS
      · replace h := hb2 hc
        refine lv_iload hx hb dL_text_52 (lv_at hl 7 rfl) ?_
        refine lv_iconst (v := (2 : Int32)) hx hb dL_text_54 (by decide) ?_
        refine lv_idiv hx hb dL_text_55 (by decide) ?_
        refine lv_istore (lv' := [(7, .int (x7 / (2 : Int32))), (0, .ref x0), (1, .int x1), (2, .ref x2), (3, .int x3), (4, .int x4), (5, .int x5), (6, .int x6)]) hx hb dL_text_56 hl (by decide) rfl (fun ls hl => ?_)
        refine lv_goto (tgt := 40) hx hb dL_text_58 (by decide) ?_
        exact ih _ _ _ _ _ _ _ _ _ _ _ _ _ _ h (lv_sub hl [1, 2, 3, 4, 5, 6, 7, 0] rfl) hR hS
  have L19 : ∀ (K8 : Nat → Int32 → Nat → Int32 → Int32 → Int32 → Nat → Nat → k_M → Prop) (hK8 : ∀ (x0 : Nat) (x1 : Int32) (x2 : Nat) (x3 : Int32) (x4 : Int32) (x5 : Int32) (kc : Nat) (ks : Nat) (M : k_M) (H : Heap) (locs : List Loc) (ls : Array Slot), K8 x0 x1 x2 x3 x4 x5 kc ks M → lv_has ls 11 [(0, .ref x0), (1, .int x1), (2, .ref x2), (3, .int x3), (4, .int x4), (5, .int x5)] → kR G M (kA M0 s.heap.size) H → va_S (kA M0 s.heap.size) s.heap H locs → W p l e (headSpec wsL_text ({ frames := 15, cells := mc, slots := ms, locals := 339 })).room s m ([.ref p0, .int p1, .ref p2] : List Value).toArray below meth c H locs kc ks (MQ below (va_Qi post (kB G M0 s.heap.size) (kA M0 s.heap.size)) ([.ref p0, .int p1, .ref p2] : List Value).toArray s mc ms (kA M0 s.heap.size)) (F0 m 8 ls [])) (n : Nat), ∀ (x0 : Nat) (x1 : Int32) (x2 : Nat) (x3 : Int32) (x4 : Int32) (x5 : Int32) (x6 : Int32) (kc : Nat) (ks : Nat) (M : k_M) (H : Heap) (locs : List Loc) (ls : Array Slot), wp_L_text_L19 G mc ms post K8 n x0 x1 x2 x3 x4 x5 x6 kc ks M → lv_has ls 11 [(0, .ref x0), (1, .int x1), (2, .ref x2), (3, .int x3), (4, .int x4), (5, .int x5), (6, .int x6)] → kR G M (kA M0 s.heap.size) H → va_S (kA M0 s.heap.size) s.heap H locs → W p l e (headSpec wsL_text ({ frames := 15, cells := mc, slots := ms, locals := 339 })).room s m ([.ref p0, .int p1, .ref p2] : List Value).toArray below meth c H locs kc ks (MQ below (va_Qi post (kB G M0 s.heap.size) (kA M0 s.heap.size)) ([.ref p0, .int p1, .ref p2] : List Value).toArray s mc ms (kA M0 s.heap.size)) (F0 m 19 ls []) := by
    intro K8 hK8 n
    induction n with
    | zero =>
      intro  x0 x1 x2 x3 x4 x5 x6 kc ks M H locs ls h
      exact False.elim h
    | succ n ih =>
      intro  x0 x1 x2 x3 x4 x5 x6 kc ks M H locs ls h hl hR hS
      refine lv_iload hx hb dL_text_19 (lv_at hl 5 rfl) ?_
      refine lv_iload hx hb dL_text_21 (lv_at hl 6 rfl) ?_
      obtain ⟨hz11, h⟩ := h
      refine lv_irem hx hb dL_text_23 hz11 ?_
      obtain ⟨ha, hb2⟩ := h
      refine lv_if_eq (tgt := 36) hx hb dL_text_24 (by decide) (fun hc => ?_) (fun hc => ?_)
      · replace h := ha hc
        refine lv_iload hx hb dL_text_36 (lv_at hl 6 rfl) ?_
        refine lv_istore (lv' := [(7, .int x6), (0, .ref x0), (1, .int x1), (2, .ref x2), (3, .int x3), (4, .int x4), (5, .int x5), (6, .int x6)]) hx hb dL_text_38 hl (by decide) rfl (fun ls hl => ?_)
        obtain ⟨k12, h⟩ := h
        exact L40 _ hK8 k12 _ _ _ _ _ _ _ _ _ _ _ _ _ _ h (lv_sub hl [1, 2, 3, 4, 5, 6, 7, 0] rfl) hR hS
      · replace h := hb2 hc
        refine lv_iload hx hb dL_text_27 (lv_at hl 6 rfl) ?_
        refine lv_iconst (v := (2 : Int32)) hx hb dL_text_29 (by decide) ?_
        refine lv_idiv hx hb dL_text_30 (by decide) ?_
        refine lv_istore (lv' := [(6, .int (x6 / (2 : Int32))), (0, .ref x0), (1, .int x1), (2, .ref x2), (3, .int x3), (4, .int x4), (5, .int x5)]) hx hb dL_text_31 hl (by decide) rfl (fun ls hl => ?_)
        refine lv_goto (tgt := 19) hx hb dL_text_33 (by decide) ?_
        exact ih _ _ _ _ _ _ _ _ _ _ _ _ _ h (lv_sub hl [1, 2, 3, 4, 5, 6, 0] rfl) hR hS
  have L8 : ∀ (n : Nat), ∀ (x0 : Nat) (x1 : Int32) (x2 : Nat) (x3 : Int32) (x4 : Int32) (x5 : Int32) (kc : Nat) (ks : Nat) (M : k_M) (H : Heap) (locs : List Loc) (ls : Array Slot), wp_L_text_L8 G mc ms post n x0 x1 x2 x3 x4 x5 kc ks M → lv_has ls 11 [(0, .ref x0), (1, .int x1), (2, .ref x2), (3, .int x3), (4, .int x4), (5, .int x5)] → kR G M (kA M0 s.heap.size) H → va_S (kA M0 s.heap.size) s.heap H locs → W p l e (headSpec wsL_text ({ frames := 15, cells := mc, slots := ms, locals := 339 })).room s m ([.ref p0, .int p1, .ref p2] : List Value).toArray below meth c H locs kc ks (MQ below (va_Qi post (kB G M0 s.heap.size) (kA M0 s.heap.size)) ([.ref p0, .int p1, .ref p2] : List Value).toArray s mc ms (kA M0 s.heap.size)) (F0 m 8 ls []) := by
    intro n
    induction n with
    | zero =>
      intro  x0 x1 x2 x3 x4 x5 kc ks M H locs ls h
      exact False.elim h
    | succ n ih =>
      intro  x0 x1 x2 x3 x4 x5 kc ks M H locs ls h hl hR hS
      refine lv_iload hx hb dL_text_8 (lv_at hl 5 rfl) ?_
      refine lv_bipush (v := (16 : Int32)) hx hb dL_text_10 (by decide) ?_
      obtain ⟨ha, hb2⟩ := h
      refine lv_icmp_ge (tgt := 286) hx hb dL_text_12 (by decide) (fun hc => ?_) (fun hc => ?_)
      · replace h := ha hc
        refine lv_iload hx hb dL_text_286 (lv_at hl 4 rfl) ?_
        obtain ⟨ha, hb2⟩ := h
        refine lv_if_ne (tgt := 305) hx hb dL_text_288 (by decide) (fun hc => ?_) (fun hc => ?_)
        · replace h := ha hc
          refine lv_iconst (v := (-1 : Int32)) hx hb dL_text_305 (by decide) ?_
          obtain ⟨hwc, hws, h⟩ := h
          refine W.widen (k := mc) (n := ms) hwc hws ?_
          exact k_reti hx hb hr hlocks rfl hR hS h dL_text_306
        · replace h := hb2 hc
          refine lv_aload_n hx hb dL_text_291 rfl (lv_at hl 0 rfl) ?_
          refine lv_iload_n hx hb dL_text_292 rfl (lv_at hl 1 rfl) ?_
          refine lv_iload_n hx hb dL_text_293 rfl (lv_at hl 3 rfl) ?_
          obtain ⟨fs7, hm6, h⟩ := h
          obtain ⟨mc2, ms3, hc8, hc9, h⟩ := h
          refine k_calli (va_runV (As := [.int x1, .int x3]) (rest := []) ⟨hx, hb, hml, hown, hts⟩ (c_X3_printed l G mc2 ms3 _ _ _ x0 x1 x3 h) (cwV 2 hts gL_text_X3_printed rfl rfl rfl (by decide +kernel) ⟨Nat.le_of_ble_eq_true rfl, Nat.le_of_ble_eq_true rfl⟩) (k_preV (q := (RX3, TX3, 8)) hm6 rfl hR hS hA hE) rfl rfl hl.1 rfl (lv_room (Nat.le_of_ble_eq_true rfl)) dL_text_294 ⟨hc8, hc9⟩) hR hS hA (fun r4 M5 H locs h hR hS => ?_)
          refine lv_iconst (v := (-1 : Int32)) hx hb dL_text_297 (by decide) ?_
          obtain ⟨ha, hb2⟩ := h
          refine lv_icmp_ne (tgt := 305) hx hb dL_text_298 (by decide) (fun hc => ?_) (fun hc => ?_)
          · replace h := ha hc
            refine lv_iconst (v := (-1 : Int32)) hx hb dL_text_305 (by decide) ?_
            obtain ⟨hwc, hws, h⟩ := h
            refine W.widen (k := mc) (n := ms) hwc hws ?_
            exact k_reti hx hb hr hlocks rfl hR hS h dL_text_306
          · replace h := hb2 hc
            refine lv_iload_n hx hb dL_text_301 rfl (lv_at hl 3 rfl) ?_
            refine lv_goto (tgt := 306) hx hb dL_text_302 (by decide) ?_
            obtain ⟨hwc, hws, h⟩ := h
            refine W.widen (k := mc) (n := ms) hwc hws ?_
            exact k_reti hx hb hr hlocks rfl hR hS h dL_text_306
      · replace h := hb2 hc
        refine lv_bipush (v := (16 : Int32)) hx hb dL_text_15 (by decide) ?_
        refine lv_istore (lv' := [(6, .int (16 : Int32)), (0, .ref x0), (1, .int x1), (2, .ref x2), (3, .int x3), (4, .int x4), (5, .int x5)]) hx hb dL_text_17 hl (by decide) rfl (fun ls hl => ?_)
        obtain ⟨k10, h⟩ := h
        exact L19 _ ih k10 _ _ _ _ _ _ _ _ _ _ _ _ _ h (lv_sub hl [1, 2, 3, 4, 5, 6, 0] rfl) hR hS
  have hl := lv_entry ([.ref p0, .int p1, .ref p2]) (n := 11) (Nat.le_of_ble_eq_true rfl)
  rw [lg_entry_eq]
  generalize (lg_sl ([.ref p0, .int p1, .ref p2]) ++ List.replicate (11 - (lg_sl ([.ref p0, .int p1, .ref p2])).length) Slot.unset).toArray = ls at hl ⊢
  have hl : lv_has ls 11 [(0, .ref p0), (1, .int p1), (2, .ref p2)] := hl
  have hR0 := hR
  refine lv_iconst (v := (0 : Int32)) hx hb dL_text_0 (by decide) ?_
  refine lv_istore_n (lv' := [(3, .int (0 : Int32)), (0, .ref p0), (1, .int p1), (2, .ref p2)]) hx hb dL_text_1 rfl hl (by decide) rfl (fun ls hl => ?_)
  refine lv_iconst (v := (0 : Int32)) hx hb dL_text_2 (by decide) ?_
  refine lv_istore (lv' := [(4, .int (0 : Int32)), (3, .int (0 : Int32)), (0, .ref p0), (1, .int p1), (2, .ref p2)]) hx hb dL_text_3 hl (by decide) rfl (fun ls hl => ?_)
  refine lv_iconst (v := (0 : Int32)) hx hb dL_text_5 (by decide) ?_
  refine lv_istore (lv' := [(5, .int (0 : Int32)), (4, .int (0 : Int32)), (3, .int (0 : Int32)), (0, .ref p0), (1, .int p1), (2, .ref p2)]) hx hb dL_text_6 hl (by decide) rfl (fun ls hl => ?_)
  obtain ⟨k1, h⟩ := h
  exact L8 k1 _ _ _ _ _ _ _ _ _ _ _ _ h (lv_sub hl [3, 4, 5, 2, 1, 0] rfl) hR hS

def wp_L_same_L725 (G : k_G) (mc ms : Nat) (post : Int32 → k_M → Prop) : Nat → Nat → Nat → Nat → Nat → Int32 → Int32 → Int32 → Int32 → Int32 → Int32 → Int32 → Nat → Nat → k_M → Prop
  | 0 => fun _ _ _ _ _ _ _ _ _ _ _ _ _ _ => False
  | n + 1 => fun x0 x3 x5 x6 x7 x8 x9 x10 x11 x12 x13 kc ks M =>
  (∃ n8 f9, M x5 = some (kI G n8 f9) ∧ vp_in (1 : Int32) n8 ∧
      (((f9 ((1 : Int32)).toNatClampNeg) ≤ x13 →
      (∃ mc12 ms13 : Nat, kc + mc12 ≤ mc ∧ ks + ms13 ≤ ms ∧ wp_L_text G mc12 ms13 (fun r14 M15 =>
        (∃ fs24, M15 x0 = some (kO 4 fs24) ∧ (∃ mc19 ms20 : Nat, (kc + mc12) + mc19 ≤ mc ∧ (ks + ms13) + ms20 ≤ ms ∧ wp_X3_of G mc19 ms20 (fun r21 M22 =>
        ((¬ r14 = r21 →
        ((kc + mc12) + mc19) ≤ mc ∧ ((ks + ms13) + ms20) ≤ ms ∧ post (0 : Int32) M22) ∧
        (r14 = r21 →
        (∃ fs30, M22 x0 = some (kO 4 fs30) ∧ (((kc + mc12) + mc19) ≤ mc ∧ ((ks + ms13) + ms20) ≤ ms ∧ wp_X3_count G (fun r27 M28 =>
          ((¬ r27 = x7 →
          ((kc + mc12) + mc19) ≤ mc ∧ ((ks + ms13) + ms20) ≤ ms ∧ post (0 : Int32) M28) ∧
          (r27 = x7 →
          (∃ fs36, M28 x0 = some (kO 4 fs36) ∧ (((kc + mc12) + mc19) ≤ mc ∧ ((ks + ms13) + ms20) ≤ ms ∧ wp_X3_count G (fun r33 M34 =>
            (∃ n39 f40, M34 x5 = some (kI G n39 f40) ∧ vp_in (0 : Int32) n39 ∧
            ((¬ r33 = (f40 ((0 : Int32)).toNatClampNeg) →
            ((kc + mc12) + mc19) ≤ mc ∧ ((ks + ms13) + ms20) ≤ ms ∧ post (0 : Int32) M34) ∧
            (r33 = (f40 ((0 : Int32)).toNatClampNeg) →
            (∃ fs46, M34 x0 = some (kO 4 fs46) ∧ (((kc + mc12) + mc19) ≤ mc ∧ ((ks + ms13) + ms20) ≤ ms ∧ wp_X3_count G (fun r43 M44 =>
              (∃ n49 f50, M44 x5 = some (kI G n49 f50) ∧ vp_in (1 : Int32) n49 ∧
              ((¬ r43 = (f50 ((1 : Int32)).toNatClampNeg) →
              ((kc + mc12) + mc19) ≤ mc ∧ ((ks + ms13) + ms20) ≤ ms ∧ post (0 : Int32) M44) ∧
              (r43 = (f50 ((1 : Int32)).toNatClampNeg) →
              (∃ fs56, M44 x0 = some (kO 4 fs56) ∧ (((kc + mc12) + mc19) ≤ mc ∧ ((ks + ms13) + ms20) ≤ ms ∧ wp_X3_count G (fun r53 M54 =>
                ((¬ r53 = x8 →
                ((kc + mc12) + mc19) ≤ mc ∧ ((ks + ms13) + ms20) ≤ ms ∧ post (0 : Int32) M54) ∧
                (r53 = x8 →
                (∃ fs62, M54 x0 = some (kO 4 fs62) ∧ (((kc + mc12) + mc19) ≤ mc ∧ ((ks + ms13) + ms20) ≤ ms ∧ wp_X3_count G (fun r59 M60 =>
                  ((¬ r59 = x9 →
                  ((kc + mc12) + mc19) ≤ mc ∧ ((ks + ms13) + ms20) ≤ ms ∧ post (0 : Int32) M60) ∧
                  (r59 = x9 →
                  (∃ fs68, M60 x0 = some (kO 4 fs68) ∧ (((kc + mc12) + mc19) ≤ mc ∧ ((ks + ms13) + ms20) ≤ ms ∧ wp_X3_count G (fun r65 M66 =>
                    ((¬ r65 = x10 →
                    ((kc + mc12) + mc19) ≤ mc ∧ ((ks + ms13) + ms20) ≤ ms ∧ post (0 : Int32) M66) ∧
                    (r65 = x10 →
                    (∃ fs74, M66 x0 = some (kO 4 fs74) ∧ (((kc + mc12) + mc19) ≤ mc ∧ ((ks + ms13) + ms20) ≤ ms ∧ wp_X3_laggard G (fun r71 M72 =>
                      ((¬ r71 = x11 →
                      ((kc + mc12) + mc19) ≤ mc ∧ ((ks + ms13) + ms20) ≤ ms ∧ post (0 : Int32) M72) ∧
                      (r71 = x11 →
                      (∃ fs80, M72 x0 = some (kO 4 fs80) ∧ (((kc + mc12) + mc19) ≤ mc ∧ ((ks + ms13) + ms20) ≤ ms ∧ wp_X3_laggard G (fun r77 M78 =>
                        (∃ n83 f84, M78 x5 = some (kI G n83 f84) ∧ vp_in (1 : Int32) n83 ∧
                        ((¬ r77 = ((f84 ((1 : Int32)).toNatClampNeg) - x12) →
                        ((kc + mc12) + mc19) ≤ mc ∧ ((ks + ms13) + ms20) ≤ ms ∧ post (0 : Int32) M78) ∧
                        (r77 = ((f84 ((1 : Int32)).toNatClampNeg) - x12) →
                        (∃ n87 f88, M78 x5 = some (kI G n87 f88) ∧ vp_in (1 : Int32) n87 ∧
                          (∃ fs94, M78 x0 = some (kO 4 fs94) ∧ (((kc + mc12) + mc19) ≤ mc ∧ ((ks + ms13) + ms20) ≤ ms ∧ wp_X3_whose G (fun r91 M92 =>
                          ((¬ r91 = (-1 : Int32) →
                          ((kc + mc12) + mc19) ≤ mc ∧ ((ks + ms13) + ms20) ≤ ms ∧ post (0 : Int32) M92) ∧
                          (r91 = (-1 : Int32) →
                          ((kc + mc12) + mc19) ≤ mc ∧ ((ks + ms13) + ms20) ≤ ms ∧ post (1 : Int32) M92))) x0 (f88 ((1 : Int32)).toNatClampNeg) M78))))))) x0 (1 : Int32) M72))))) x0 (0 : Int32) M66))))) x0 (5 : Int32) M60))))) x0 (4 : Int32) M54))))) x0 (3 : Int32) M44)))))) x0 (2 : Int32) M34)))))) x0 (1 : Int32) M28))))) x0 (0 : Int32) M22))))) x0 x11 (7 : Int32) M15))) x0 x11 x3 M)) ∧
      (¬ (f9 ((1 : Int32)).toNatClampNeg) ≤ x13 →
      (∃ fs100, M x0 = some (kO 4 fs100) ∧ (kc ≤ mc ∧ ks ≤ ms ∧ wp_X3_whose G (fun r97 M98 =>
        (∃ n103 f104, M98 x6 = some (kI G n103 f104) ∧ vp_in x13 n103 ∧
        ((r97 = (f104 (x13).toNatClampNeg) →
        (wp_L_same_L725 G mc ms post n) x0 x3 x5 x6 x7 x8 x9 x10 x11 x12 (x13 + (1 : Int32)) kc ks M98) ∧
        (¬ r97 = (f104 (x13).toNatClampNeg) →
        kc ≤ mc ∧ ks ≤ ms ∧ post (0 : Int32) M98)))) x0 x13 M)))))
def wp_L_same_L589 (G : k_G) (mc ms : Nat) (post : Int32 → k_M → Prop) (K574 : Nat → Int32 → Nat → Nat → Nat → Nat → Nat → Int32 → Int32 → Int32 → Int32 → Int32 → Int32 → Int32 → Nat → Nat → k_M → Prop) : Nat → Nat → Int32 → Nat → Nat → Nat → Nat → Nat → Int32 → Int32 → Int32 → Int32 → Int32 → Int32 → Int32 → Int32 → Int32 → Nat → Nat → k_M → Prop
  | 0 => fun _ _ _ _ _ _ _ _ _ _ _ _ _ _ _ _ _ _ _ => False
  | n + 1 => fun x0 x1 x2 x3 x4 x5 x6 x7 x8 x9 x10 x11 x12 x13 x14 x15 kc ks M =>
  (((16 : Int32) ≤ x15 →
      (∃ fs111, M x0 = some (kO 4 fs111) ∧ (kc ≤ mc ∧ ks ≤ ms ∧ wp_X3_ofMessage G (fun r108 M109 =>
        (∃ n114 f115, M109 x2 = some (kI G n114 f115) ∧ vp_in ((8 : Int32) + x13) n114 ∧
        ((¬ r108 = (f115 (((8 : Int32) + x13)).toNatClampNeg) →
        kc ≤ mc ∧ ks ≤ ms ∧ post (0 : Int32) M109) ∧
        (r108 = (f115 (((8 : Int32) + x13)).toNatClampNeg) →
        (∃ fs121, M109 x0 = some (kO 4 fs121) ∧ (kc ≤ mc ∧ ks ≤ ms ∧ wp_X3_ofMessage G (fun r118 M119 =>
          ((¬ r118 = x14 →
          kc ≤ mc ∧ ks ≤ ms ∧ post (0 : Int32) M119) ∧
          (r118 = x14 →
          (∃ fs127, M119 x0 = some (kO 4 fs127) ∧ (kc ≤ mc ∧ ks ≤ ms ∧ wp_X3_ofMessage G (fun r124 M125 =>
            (∃ n130 f131, M125 x4 = some (kJ G n130 f131) ∧ vp_in ((8 : Int32) + x13) n130 ∧
            (kc ≤ mc ∧ ks ≤ ms ∧ wp_L_bits G (fun r134 M135 =>
            ((¬ r124 = r134 →
            kc ≤ mc ∧ ks ≤ ms ∧ post (0 : Int32) M135) ∧
            (r124 = r134 →
            (∃ fs142, M135 x0 = some (kO 4 fs142) ∧ (kc ≤ mc ∧ ks ≤ ms ∧ wp_X3_ofMessage G (fun r139 M140 =>
              (kc ≤ mc ∧ ks ≤ ms ∧ wp_L_knots G (fun r145 M146 =>
              ((¬ r139 = r145 →
              kc ≤ mc ∧ ks ≤ ms ∧ post (0 : Int32) M146) ∧
              (r139 = r145 →
              (∃ fs153, M146 x0 = some (kO 4 fs153) ∧ (kc ≤ mc ∧ ks ≤ ms ∧ wp_X3_height G (fun r150 M151 =>
                (kc ≤ mc ∧ ks ≤ ms ∧ wp_L_height G (fun r156 M157 =>
                ((r150 = r156 →
                K574 x0 x1 x2 x3 x4 x5 x6 x7 x8 x9 x10 x11 x12 (x13 + (1 : Int32)) kc ks M157) ∧
                (¬ r150 = r156 →
                kc ≤ mc ∧ ks ≤ ms ∧ post (0 : Int32) M157))) ((8 : Int32) + x13) (x1 &&& (15 : Int32)) x3 M151)) x0 (1 : Int32) x13 (x1 &&& (15 : Int32)) M146))))) ((8 : Int32) + x13) x3 M140)) x0 x13 (3 : Int32) M135))))) (f131 (((8 : Int32) + x13)).toNatClampNeg) M125))) x0 x13 (2 : Int32) M119))))) x0 x13 (1 : Int32) M109)))))) x0 x13 (0 : Int32) M))) ∧
      (¬ (16 : Int32) ≤ x15 →
      (kc ≤ mc ∧ ks ≤ ms ∧ wp_L_height G (fun r161 M162 =>
        (wp_L_same_L589 G mc ms post K574 n) x0 x1 x2 x3 x4 x5 x6 x7 x8 x9 x10 x11 x12 x13 (x14 + r161) (x15 + (1 : Int32)) kc ks M162) ((8 : Int32) + x13) x15 x3 M)))
def wp_L_same_L574 (G : k_G) (mc ms : Nat) (post : Int32 → k_M → Prop) : Nat → Nat → Int32 → Nat → Nat → Nat → Nat → Nat → Int32 → Int32 → Int32 → Int32 → Int32 → Int32 → Int32 → Nat → Nat → k_M → Prop
  | 0 => fun _ _ _ _ _ _ _ _ _ _ _ _ _ _ _ _ _ => False
  | n + 1 => fun x0 x1 x2 x3 x4 x5 x6 x7 x8 x9 x10 x11 x12 x13 kc ks M =>
  (∃ n3 f4, M x5 = some (kI G n3 f4) ∧ vp_in (0 : Int32) n3 ∧
      (((f4 ((0 : Int32)).toNatClampNeg) ≤ x13 →
      ∃ k7, wp_L_same_L725 G mc ms post k7 x0 x3 x5 x6 x7 x8 x9 x10 x11 x12 (0 : Int32) kc ks M) ∧
      (¬ (f4 ((0 : Int32)).toNatClampNeg) ≤ x13 →
      ∃ k107, wp_L_same_L589 G mc ms post (wp_L_same_L574 G mc ms post n) k107 x0 x1 x2 x3 x4 x5 x6 x7 x8 x9 x10 x11 x12 x13 (0 : Int32) (0 : Int32) kc ks M)))
def wp_L_same_b453 (G : k_G) (mc ms : Nat) (post : Int32 → k_M → Prop) (K25 : Nat → Int32 → Nat → Nat → Nat → Nat → Nat → Int32 → Int32 → Int32 → Int32 → Int32 → Int32 → Int32 → Nat → Nat → k_M → Prop) (x0 : Nat) (x1 : Int32) (x2 : Nat) (x3 : Nat) (x4 : Nat) (x5 : Nat) (x6 : Nat) (x7 : Int32) (x8 : Int32) (x9 : Int32) (x11 : Int32) (x12 : Int32) (x13 : Int32) (x14 : Int32) (x15 : Int32) (x16 : Int32) (x18 : Int32) (s0 : Int32) (kc : Nat) (ks : Nat) (M : k_M) : Prop :=
  (kc ≤ mc ∧ ks ≤ ms ∧ wp_L_knots G (fun r191 M192 =>
    (∃ fs201, M192 x0 = some (kO 4 fs201) ∧ (∃ mc196 ms197 : Nat, kc + mc196 ≤ mc ∧ ks + ms197 ≤ ms ∧ wp_X3_of G mc196 ms197 (fun r198 M199 =>
    (∃ n204 f205, M199 x2 = some (kI G n204 f205) ∧ vp_in x13 n204 ∧
    ((¬ r198 = (f205 (x13).toNatClampNeg) →
    (kc + mc196) ≤ mc ∧ (ks + ms197) ≤ ms ∧ post (0 : Int32) M199) ∧
    (r198 = (f205 (x13).toNatClampNeg) →
    (∃ fs213, M199 x0 = some (kO 4 fs213) ∧ (∃ mc208 ms209 : Nat, (kc + mc196) + mc208 ≤ mc ∧ (ks + ms197) + ms209 ≤ ms ∧ wp_X3_of G mc208 ms209 (fun r210 M211 =>
      (∃ n216 f217, M211 x2 = some (kI G n216 f217) ∧ vp_in x13 n216 ∧
      (((kc + mc196) + mc208) ≤ mc ∧ ((ks + ms197) + ms209) ≤ ms ∧ wp_L_bits G (fun r220 M221 =>
      ((¬ r210 = r220 →
      ((kc + mc196) + mc208) ≤ mc ∧ ((ks + ms197) + ms209) ≤ ms ∧ post (0 : Int32) M221) ∧
      (r210 = r220 →
      (∃ fs230, M221 x0 = some (kO 4 fs230) ∧ (∃ mc225 ms226 : Nat, ((kc + mc196) + mc208) + mc225 ≤ mc ∧ ((ks + ms197) + ms209) + ms226 ≤ ms ∧ wp_X3_of G mc225 ms226 (fun r227 M228 =>
        ((¬ r227 = x15 →
        (((kc + mc196) + mc208) + mc225) ≤ mc ∧ (((ks + ms197) + ms209) + ms226) ≤ ms ∧ post (0 : Int32) M228) ∧
        (r227 = x15 →
        (∃ fs238, M228 x0 = some (kO 4 fs238) ∧ (∃ mc233 ms234 : Nat, (((kc + mc196) + mc208) + mc225) + mc233 ≤ mc ∧ (((ks + ms197) + ms209) + ms226) + ms234 ≤ ms ∧ wp_X3_of G mc233 ms234 (fun r235 M236 =>
          ((¬ r235 = x14 →
          ((((kc + mc196) + mc208) + mc225) + mc233) ≤ mc ∧ ((((ks + ms197) + ms209) + ms226) + ms234) ≤ ms ∧ post (0 : Int32) M236) ∧
          (r235 = x14 →
          (∃ fs246, M236 x0 = some (kO 4 fs246) ∧ (∃ mc241 ms242 : Nat, ((((kc + mc196) + mc208) + mc225) + mc233) + mc241 ≤ mc ∧ ((((ks + ms197) + ms209) + ms226) + ms234) + ms242 ≤ ms ∧ wp_X3_of G mc241 ms242 (fun r243 M244 =>
            ((¬ r243 = x18 →
            (((((kc + mc196) + mc208) + mc225) + mc233) + mc241) ≤ mc ∧ (((((ks + ms197) + ms209) + ms226) + ms234) + ms242) ≤ ms ∧ post (0 : Int32) M244) ∧
            (r243 = x18 →
            (∃ fs254, M244 x0 = some (kO 4 fs254) ∧ (∃ mc249 ms250 : Nat, (((((kc + mc196) + mc208) + mc225) + mc233) + mc241) + mc249 ≤ mc ∧ (((((ks + ms197) + ms209) + ms226) + ms234) + ms242) + ms250 ≤ ms ∧ wp_X3_of G mc249 ms250 (fun r251 M252 =>
              ((¬ r251 = x16 →
              ((((((kc + mc196) + mc208) + mc225) + mc233) + mc241) + mc249) ≤ mc ∧ ((((((ks + ms197) + ms209) + ms226) + ms234) + ms242) + ms250) ≤ ms ∧ post (0 : Int32) M252) ∧
              (r251 = x16 →
              (∃ fs262, M252 x0 = some (kO 4 fs262) ∧ (∃ mc257 ms258 : Nat, ((((((kc + mc196) + mc208) + mc225) + mc233) + mc241) + mc249) + mc257 ≤ mc ∧ ((((((ks + ms197) + ms209) + ms226) + ms234) + ms242) + ms250) + ms258 ≤ ms ∧ wp_X3_of G mc257 ms258 (fun r259 M260 =>
                ((((((((kc + mc196) + mc208) + mc225) + mc233) + mc241) + mc249) + mc257) ≤ mc ∧ (((((((ks + ms197) + ms209) + ms226) + ms234) + ms242) + ms250) + ms258) ≤ ms ∧ wp_L_knots G (fun r265 M266 =>
                ((r259 = r265 →
                K25 x0 x1 x2 x3 x4 x5 x6 x7 x8 (x9 + r191) s0 x11 x12 (x13 + (1 : Int32)) (((((((kc + mc196) + mc208) + mc225) + mc233) + mc241) + mc249) + mc257) (((((((ks + ms197) + ms209) + ms226) + ms234) + ms242) + ms250) + ms258) M266) ∧
                (¬ r259 = r265 →
                (((((((kc + mc196) + mc208) + mc225) + mc233) + mc241) + mc249) + mc257) ≤ mc ∧ (((((((ks + ms197) + ms209) + ms226) + ms234) + ms242) + ms250) + ms258) ≤ ms ∧ post (0 : Int32) M266))) x13 x3 M260)) x0 x13 (6 : Int32) M252))))) x0 x13 (5 : Int32) M244))))) x0 x13 (4 : Int32) M236))))) x0 x13 (3 : Int32) M228))))) x0 x13 (2 : Int32) M221))))) ((f217 (x13).toNatClampNeg)).toInt64 M211))) x0 x13 (1 : Int32) M199)))))) x0 x13 (0 : Int32) M192))) x13 x3 M)
def wp_L_same_b451 (G : k_G) (mc ms : Nat) (post : Int32 → k_M → Prop) (K25 : Nat → Int32 → Nat → Nat → Nat → Nat → Nat → Int32 → Int32 → Int32 → Int32 → Int32 → Int32 → Int32 → Nat → Nat → k_M → Prop) (x0 : Nat) (x1 : Int32) (x2 : Nat) (x3 : Nat) (x4 : Nat) (x5 : Nat) (x6 : Nat) (x7 : Int32) (x8 : Int32) (x9 : Int32) (x10 : Int32) (x11 : Int32) (x12 : Int32) (x13 : Int32) (x14 : Int32) (x15 : Int32) (x16 : Int32) (x18 : Int32) (kc : Nat) (ks : Nat) (M : k_M) : Prop :=
  wp_L_same_b453 G mc ms post K25 x0 x1 x2 x3 x4 x5 x6 x7 x8 x9 x11 x12 x13 x14 x15 x16 x18 x10 kc ks M
def wp_L_same_b436 (G : k_G) (mc ms : Nat) (post : Int32 → k_M → Prop) (K25 : Nat → Int32 → Nat → Nat → Nat → Nat → Nat → Int32 → Int32 → Int32 → Int32 → Int32 → Int32 → Int32 → Nat → Nat → k_M → Prop) (x0 : Nat) (x1 : Int32) (x2 : Nat) (x3 : Nat) (x4 : Nat) (x5 : Nat) (x6 : Nat) (x7 : Int32) (x8 : Int32) (x9 : Int32) (x10 : Int32) (x11 : Int32) (x12 : Int32) (x13 : Int32) (x14 : Int32) (x15 : Int32) (x16 : Int32) (x17 : Int32) (x18 : Int32) (kc : Nat) (ks : Nat) (M : k_M) : Prop :=
  ((0 ≤ x10 →
    wp_L_same_b451 G mc ms post K25 x0 x1 x2 x3 x4 x5 x6 x7 x8 x9 x10 x11 x12 x13 x14 x15 x16 x18 kc ks M) ∧
    (¬ 0 ≤ x10 →
    ((x17 = 0 →
      wp_L_same_b451 G mc ms post K25 x0 x1 x2 x3 x4 x5 x6 x7 x8 x9 x10 x11 x12 x13 x14 x15 x16 x18 kc ks M) ∧
      (¬ x17 = 0 →
      wp_L_same_b453 G mc ms post K25 x0 x1 x2 x3 x4 x5 x6 x7 x8 x9 x11 x12 x13 x14 x15 x16 x18 x13 kc ks M))))
def wp_L_same_L336 (G : k_G) (mc ms : Nat) (post : Int32 → k_M → Prop) (K25 : Nat → Int32 → Nat → Nat → Nat → Nat → Nat → Int32 → Int32 → Int32 → Int32 → Int32 → Int32 → Int32 → Nat → Nat → k_M → Prop) : Nat → Nat → Int32 → Nat → Nat → Nat → Nat → Nat → Int32 → Int32 → Int32 → Int32 → Int32 → Int32 → Int32 → Int32 → Int32 → Int32 → Int32 → Int32 → Nat → Nat → k_M → Prop
  | 0 => fun _ _ _ _ _ _ _ _ _ _ _ _ _ _ _ _ _ _ _ _ _ _ => False
  | n + 1 => fun x0 x1 x2 x3 x4 x5 x6 x7 x8 x9 x10 x11 x12 x13 x14 x15 x16 x17 x18 kc ks M =>
  (∃ n178 f179, M x5 = some (kI G n178 f179) ∧ vp_in (0 : Int32) n178 ∧
      (((f179 ((0 : Int32)).toNatClampNeg) ≤ x18 →
      (∃ n182 f183, M x4 = some (kJ G n182 f183) ∧ vp_in x13 n182 ∧
        (kc ≤ mc ∧ ks ≤ ms ∧ wp_L_bits G (fun r186 M187 =>
        ((x12 ≤ r186 →
        wp_L_same_b436 G mc ms post K25 x0 x1 x2 x3 x4 x5 x6 x7 x8 x9 x10 x11 x12 x13 x14 x15 x16 x17 r186 kc ks M187) ∧
        (¬ x12 ≤ r186 →
        wp_L_same_b436 G mc ms post K25 x0 x1 x2 x3 x4 x5 x6 x7 x8 x9 x10 x13 r186 x13 x14 x15 x16 x17 r186 kc ks M187))) (f183 (x13).toNatClampNeg) M))) ∧
      (¬ (f179 ((0 : Int32)).toNatClampNeg) ≤ x18 →
      (∃ fs273, M x0 = some (kO 4 fs273) ∧ (kc ≤ mc ∧ ks ≤ ms ∧ wp_X3_order G (fun r270 M271 =>
        (kc ≤ mc ∧ ks ≤ ms ∧ wp_L_order G (fun r276 M277 =>
        ((¬ r270 = r276 →
        kc ≤ mc ∧ ks ≤ ms ∧ post (0 : Int32) M277) ∧
        (r270 = r276 →
        (∃ fs284, M277 x0 = some (kO 4 fs284) ∧ (kc ≤ mc ∧ ks ≤ ms ∧ wp_X3_more G (fun r281 M282 =>
          (∃ n287 f288, M282 x4 = some (kJ G n287 f288) ∧ vp_in ((8 : Int32) + x18) n287 ∧
          (∃ n291 f292, M282 x4 = some (kJ G n291 f292) ∧ vp_in x13 n291 ∧
          (kc ≤ mc ∧ ks ≤ ms ∧ wp_L_bits G (fun r295 M296 =>
          ((r281 = r295 →
          (wp_L_same_L336 G mc ms post K25 n) x0 x1 x2 x3 x4 x5 x6 x7 x8 x9 x10 x11 x12 x13 x14 x15 x16 x17 (x18 + (1 : Int32)) kc ks M296) ∧
          (¬ r281 = r295 →
          kc ≤ mc ∧ ks ≤ ms ∧ post (0 : Int32) M296))) ((f288 (((8 : Int32) + x18)).toNatClampNeg) &&& ((f292 (x13).toNatClampNeg) ^^^ (-1 : Int64))) M282)))) x0 (1 : Int32) x18 (0 : Int32) x13 M277))))) x13 ((8 : Int32) + x18) x3 M271)) x0 (0 : Int32) x13 (1 : Int32) x18 M)))))
def wp_L_same_b277 (G : k_G) (mc ms : Nat) (post : Int32 → k_M → Prop) (K25 : Nat → Int32 → Nat → Nat → Nat → Nat → Nat → Int32 → Int32 → Int32 → Int32 → Int32 → Int32 → Int32 → Nat → Nat → k_M → Prop) (K199 : Nat → Int32 → Nat → Nat → Nat → Nat → Nat → Int32 → Int32 → Int32 → Int32 → Int32 → Int32 → Int32 → Int32 → Int32 → Int32 → Int32 → Int32 → Nat → Nat → k_M → Prop) (x0 : Nat) (x1 : Int32) (x2 : Nat) (x3 : Nat) (x4 : Nat) (x5 : Nat) (x6 : Nat) (x7 : Int32) (x8 : Int32) (x9 : Int32) (x10 : Int32) (x11 : Int32) (x12 : Int32) (x13 : Int32) (x14 : Int32) (x15 : Int32) (x16 : Int32) (x18 : Int32) (x19 : Int32) (s0 : Int32) (kc : Nat) (ks : Nat) (M : k_M) : Prop :=
  (∃ fs312, M x0 = some (kO 4 fs312) ∧ (kc ≤ mc ∧ ks ≤ ms ∧ wp_X3_order G (fun r309 M310 =>
    ((¬ r309 = x19 →
    kc ≤ mc ∧ ks ≤ ms ∧ post (0 : Int32) M310) ∧
    (r309 = x19 →
    (∃ fs318, M310 x0 = some (kO 4 fs318) ∧ (kc ≤ mc ∧ ks ≤ ms ∧ wp_X3_more G (fun r315 M316 =>
      (∃ n321 f322, M316 x4 = some (kJ G n321 f322) ∧ vp_in x13 n321 ∧
      (∃ n325 f326, M316 x4 = some (kJ G n325 f326) ∧ vp_in x18 n325 ∧
      (kc ≤ mc ∧ ks ≤ ms ∧ wp_L_bits G (fun r329 M330 =>
      ((r315 = r329 →
      K199 x0 x1 x2 x3 x4 x5 x6 x7 x8 x9 x10 x11 x12 x13 x14 x15 x16 s0 (x18 + (1 : Int32)) kc ks M330) ∧
      (¬ r315 = r329 →
      kc ≤ mc ∧ ks ≤ ms ∧ post (0 : Int32) M330))) ((f322 (x13).toNatClampNeg) &&& ((f326 (x18).toNatClampNeg) ^^^ (-1 : Int64))) M316)))) x0 (0 : Int32) x13 (0 : Int32) x18 M310))))) x0 (0 : Int32) x13 (0 : Int32) x18 M))
def wp_L_same_b276 (G : k_G) (mc ms : Nat) (post : Int32 → k_M → Prop) (K25 : Nat → Int32 → Nat → Nat → Nat → Nat → Nat → Int32 → Int32 → Int32 → Int32 → Int32 → Int32 → Int32 → Nat → Nat → k_M → Prop) (K199 : Nat → Int32 → Nat → Nat → Nat → Nat → Nat → Int32 → Int32 → Int32 → Int32 → Int32 → Int32 → Int32 → Int32 → Int32 → Int32 → Int32 → Int32 → Nat → Nat → k_M → Prop) (x0 : Nat) (x1 : Int32) (x2 : Nat) (x3 : Nat) (x4 : Nat) (x5 : Nat) (x6 : Nat) (x7 : Int32) (x8 : Int32) (x9 : Int32) (x10 : Int32) (x11 : Int32) (x12 : Int32) (x13 : Int32) (x14 : Int32) (x15 : Int32) (x16 : Int32) (x18 : Int32) (x19 : Int32) (kc : Nat) (ks : Nat) (M : k_M) : Prop :=
  wp_L_same_b277 G mc ms post K25 K199 x0 x1 x2 x3 x4 x5 x6 x7 x8 x9 x10 x11 x12 x13 x14 x15 x16 x18 x19 (0 : Int32) kc ks M
def wp_L_same_b272 (G : k_G) (mc ms : Nat) (post : Int32 → k_M → Prop) (K25 : Nat → Int32 → Nat → Nat → Nat → Nat → Nat → Int32 → Int32 → Int32 → Int32 → Int32 → Int32 → Int32 → Nat → Nat → k_M → Prop) (K199 : Nat → Int32 → Nat → Nat → Nat → Nat → Nat → Int32 → Int32 → Int32 → Int32 → Int32 → Int32 → Int32 → Int32 → Int32 → Int32 → Int32 → Int32 → Nat → Nat → k_M → Prop) (x0 : Nat) (x1 : Int32) (x2 : Nat) (x3 : Nat) (x4 : Nat) (x5 : Nat) (x6 : Nat) (x7 : Int32) (x8 : Int32) (x9 : Int32) (x10 : Int32) (x11 : Int32) (x12 : Int32) (x13 : Int32) (x14 : Int32) (x15 : Int32) (x16 : Int32) (x18 : Int32) (x19 : Int32) (kc : Nat) (ks : Nat) (M : k_M) : Prop :=
  wp_L_same_b277 G mc ms post K25 K199 x0 x1 x2 x3 x4 x5 x6 x7 x8 x9 x10 x11 x12 x13 x14 x15 x16 x18 x19 (1 : Int32) kc ks M
def wp_L_same_b253 (G : k_G) (mc ms : Nat) (post : Int32 → k_M → Prop) (K25 : Nat → Int32 → Nat → Nat → Nat → Nat → Nat → Int32 → Int32 → Int32 → Int32 → Int32 → Int32 → Int32 → Nat → Nat → k_M → Prop) (K199 : Nat → Int32 → Nat → Nat → Nat → Nat → Nat → Int32 → Int32 → Int32 → Int32 → Int32 → Int32 → Int32 → Int32 → Int32 → Int32 → Int32 → Int32 → Nat → Nat → k_M → Prop) (x0 : Nat) (x1 : Int32) (x2 : Nat) (x3 : Nat) (x4 : Nat) (x5 : Nat) (x6 : Nat) (x7 : Int32) (x9 : Int32) (x10 : Int32) (x11 : Int32) (x12 : Int32) (x13 : Int32) (x14 : Int32) (x15 : Int32) (x16 : Int32) (x17 : Int32) (x18 : Int32) (x19 : Int32) (s0 : Int32) (s1 : Int32) (kc : Nat) (ks : Nat) (M : k_M) : Prop :=
  ((x17 = 0 →
    wp_L_same_b276 G mc ms post K25 K199 x0 x1 x2 x3 x4 x5 x6 x7 (s1 + s0) x9 x10 x11 x12 x13 x14 x15 x16 x18 x19 kc ks M) ∧
    (¬ x17 = 0 →
    ((x19 = 0 →
      wp_L_same_b272 G mc ms post K25 K199 x0 x1 x2 x3 x4 x5 x6 x7 (s1 + s0) x9 x10 x11 x12 x13 x14 x15 x16 x18 x19 kc ks M) ∧
      (¬ x19 = 0 →
      ((¬ x19 = (2 : Int32) →
        wp_L_same_b276 G mc ms post K25 K199 x0 x1 x2 x3 x4 x5 x6 x7 (s1 + s0) x9 x10 x11 x12 x13 x14 x15 x16 x18 x19 kc ks M) ∧
        (x19 = (2 : Int32) →
        wp_L_same_b272 G mc ms post K25 K199 x0 x1 x2 x3 x4 x5 x6 x7 (s1 + s0) x9 x10 x11 x12 x13 x14 x15 x16 x18 x19 kc ks M))))))
def wp_L_same_b252 (G : k_G) (mc ms : Nat) (post : Int32 → k_M → Prop) (K25 : Nat → Int32 → Nat → Nat → Nat → Nat → Nat → Int32 → Int32 → Int32 → Int32 → Int32 → Int32 → Int32 → Nat → Nat → k_M → Prop) (K199 : Nat → Int32 → Nat → Nat → Nat → Nat → Nat → Int32 → Int32 → Int32 → Int32 → Int32 → Int32 → Int32 → Int32 → Int32 → Int32 → Int32 → Int32 → Nat → Nat → k_M → Prop) (x0 : Nat) (x1 : Int32) (x2 : Nat) (x3 : Nat) (x4 : Nat) (x5 : Nat) (x6 : Nat) (x7 : Int32) (x9 : Int32) (x10 : Int32) (x11 : Int32) (x12 : Int32) (x13 : Int32) (x14 : Int32) (x15 : Int32) (x16 : Int32) (x17 : Int32) (x18 : Int32) (x19 : Int32) (s0 : Int32) (kc : Nat) (ks : Nat) (M : k_M) : Prop :=
  wp_L_same_b253 G mc ms post K25 K199 x0 x1 x2 x3 x4 x5 x6 x7 x9 x10 x11 x12 x13 x14 x15 x16 x17 x18 x19 (0 : Int32) s0 kc ks M
def wp_L_same_L199 (G : k_G) (mc ms : Nat) (post : Int32 → k_M → Prop) (K25 : Nat → Int32 → Nat → Nat → Nat → Nat → Nat → Int32 → Int32 → Int32 → Int32 → Int32 → Int32 → Int32 → Nat → Nat → k_M → Prop) : Nat → Nat → Int32 → Nat → Nat → Nat → Nat → Nat → Int32 → Int32 → Int32 → Int32 → Int32 → Int32 → Int32 → Int32 → Int32 → Int32 → Int32 → Int32 → Nat → Nat → k_M → Prop
  | 0 => fun _ _ _ _ _ _ _ _ _ _ _ _ _ _ _ _ _ _ _ _ _ _ => False
  | n + 1 => fun x0 x1 x2 x3 x4 x5 x6 x7 x8 x9 x10 x11 x12 x13 x14 x15 x16 x17 x18 kc ks M =>
  (((8 : Int32) ≤ x18 →
      ∃ k177, wp_L_same_L336 G mc ms post K25 k177 x0 x1 x2 x3 x4 x5 x6 x7 x8 x9 x10 x11 x12 x13 x14 x15 x16 x17 (0 : Int32) kc ks M) ∧
      (¬ (8 : Int32) ≤ x18 →
      (∃ n300 f301, M x2 = some (kI G n300 f301) ∧ vp_in x18 n300 ∧
        (((f301 (x18).toNatClampNeg) = 0 →
        (wp_L_same_L199 G mc ms post K25 n) x0 x1 x2 x3 x4 x5 x6 x7 x8 x9 x10 x11 x12 x13 x14 x15 x16 x17 (x18 + (1 : Int32)) kc ks M) ∧
        (¬ (f301 (x18).toNatClampNeg) = 0 →
        ((¬ x18 = x13 →
          (kc ≤ mc ∧ ks ≤ ms ∧ wp_L_order G (fun r304 M305 =>
            ((x18 ≤ x13 →
            wp_L_same_b252 G mc ms post K25 (wp_L_same_L199 G mc ms post K25 n) x0 x1 x2 x3 x4 x5 x6 x7 x9 x10 x11 x12 x13 x14 x15 x16 x17 x18 r304 x8 kc ks M305) ∧
            (¬ x18 ≤ x13 →
            ((¬ r304 = (3 : Int32) →
              wp_L_same_b252 G mc ms post K25 (wp_L_same_L199 G mc ms post K25 n) x0 x1 x2 x3 x4 x5 x6 x7 x9 x10 x11 x12 x13 x14 x15 x16 x17 x18 r304 x8 kc ks M305) ∧
              (r304 = (3 : Int32) →
              wp_L_same_b253 G mc ms post K25 (wp_L_same_L199 G mc ms post K25 n) x0 x1 x2 x3 x4 x5 x6 x7 x9 x10 x11 x12 x13 x14 x15 x16 x17 x18 r304 (1 : Int32) x8 kc ks M305))))) x13 x18 x3 M)) ∧
          (x18 = x13 →
          (wp_L_same_L199 G mc ms post K25 n) x0 x1 x2 x3 x4 x5 x6 x7 x8 x9 x10 x11 x12 x13 x14 x15 x16 x17 (x18 + (1 : Int32)) kc ks M)))))))
def wp_L_same_L132 (G : k_G) (mc ms : Nat) (post : Int32 → k_M → Prop) (K25 : Nat → Int32 → Nat → Nat → Nat → Nat → Nat → Int32 → Int32 → Int32 → Int32 → Int32 → Int32 → Int32 → Nat → Nat → k_M → Prop) : Nat → Nat → Int32 → Nat → Nat → Nat → Nat → Nat → Int32 → Int32 → Int32 → Int32 → Int32 → Int32 → Int32 → Int32 → Int32 → Int32 → Int32 → Int32 → Nat → Nat → k_M → Prop
  | 0 => fun _ _ _ _ _ _ _ _ _ _ _ _ _ _ _ _ _ _ _ _ _ _ => False
  | n + 1 => fun x0 x1 x2 x3 x4 x5 x6 x7 x8 x9 x10 x11 x12 x13 x14 x15 x16 x17 x18 kc ks M =>
  (∃ n172 f173, M x5 = some (kI G n172 f173) ∧ vp_in (1 : Int32) n172 ∧
      (((f173 ((1 : Int32)).toNatClampNeg) ≤ x18 →
      ∃ k176, wp_L_same_L199 G mc ms post K25 k176 x0 x1 x2 x3 x4 x5 x6 x7 x8 x9 x10 x11 x12 x13 x14 x15 x16 x17 (0 : Int32) kc ks M) ∧
      (¬ (f173 ((1 : Int32)).toNatClampNeg) ≤ x18 →
      (∃ fs337, M x0 = some (kO 4 fs337) ∧ (kc ≤ mc ∧ ks ≤ ms ∧ wp_X3_knows G (fun r334 M335 =>
        (∃ n340 f341, M335 x4 = some (kJ G n340 f341) ∧ vp_in x13 n340 ∧
        ((r334 = (((((f341 (x13).toNatClampNeg)).toUInt64 >>> ((x18).toInt64.toUInt64 &&& Int64.toUInt64 63)).toInt64 &&& (1 : Int64))).toInt32 →
        (∃ n344 f345, M335 x4 = some (kJ G n344 f345) ∧ vp_in x13 n344 ∧
          ((¬ (lg_cmp ((((f345 (x13).toNatClampNeg)).toUInt64 >>> ((x18).toInt64.toUInt64 &&& Int64.toUInt64 63)).toInt64 &&& (1 : Int64)) (1 : Int64)) = 0 →
          (wp_L_same_L132 G mc ms post K25 n) x0 x1 x2 x3 x4 x5 x6 x7 x8 x9 x10 x11 x12 x13 x14 x15 x16 x17 (x18 + (1 : Int32)) kc ks M335) ∧
          ((lg_cmp ((((f345 (x13).toNatClampNeg)).toUInt64 >>> ((x18).toInt64.toUInt64 &&& Int64.toUInt64 63)).toInt64 &&& (1 : Int64)) (1 : Int64)) = 0 →
          (wp_L_same_L132 G mc ms post K25 n) x0 x1 x2 x3 x4 x5 x6 x7 x8 x9 x10 x11 x12 x13 x14 x15 x18 x17 (x18 + (1 : Int32)) kc ks M335)))) ∧
        (¬ r334 = (((((f341 (x13).toNatClampNeg)).toUInt64 >>> ((x18).toInt64.toUInt64 &&& Int64.toUInt64 63)).toInt64 &&& (1 : Int64))).toInt32 →
        kc ≤ mc ∧ ks ≤ ms ∧ post (0 : Int32) M335)))) x0 (0 : Int32) x13 x18 M)))))
def wp_L_same_b105 (G : k_G) (mc ms : Nat) (post : Int32 → k_M → Prop) (K25 : Nat → Int32 → Nat → Nat → Nat → Nat → Nat → Int32 → Int32 → Int32 → Int32 → Int32 → Int32 → Int32 → Nat → Nat → k_M → Prop) (K67 : Nat → Int32 → Nat → Nat → Nat → Nat → Nat → Int32 → Int32 → Int32 → Int32 → Int32 → Int32 → Int32 → Int32 → Int32 → Int32 → Int32 → Int32 → Nat → Nat → k_M → Prop) (x0 : Nat) (x1 : Int32) (x2 : Nat) (x3 : Nat) (x4 : Nat) (x5 : Nat) (x6 : Nat) (x7 : Int32) (x8 : Int32) (x9 : Int32) (x10 : Int32) (x11 : Int32) (x12 : Int32) (x13 : Int32) (x14 : Int32) (x16 : Int32) (x17 : Int32) (x18 : Int32) (x19 : Int32) (s0 : Int32) (kc : Nat) (ks : Nat) (M : k_M) : Prop :=
  (∃ fs356, M x0 = some (kO 4 fs356) ∧ (kc ≤ mc ∧ ks ≤ ms ∧ wp_X3_height G (fun r353 M354 =>
    ((r353 = x19 →
    K67 x0 x1 x2 x3 x4 x5 x6 x7 x8 x9 x10 x11 x12 x13 x14 s0 x16 x17 (x18 + (1 : Int32)) kc ks M354) ∧
    (¬ r353 = x19 →
    kc ≤ mc ∧ ks ≤ ms ∧ post (0 : Int32) M354))) x0 (0 : Int32) x13 x18 M))
def wp_L_same_L67 (G : k_G) (mc ms : Nat) (post : Int32 → k_M → Prop) (K25 : Nat → Int32 → Nat → Nat → Nat → Nat → Nat → Int32 → Int32 → Int32 → Int32 → Int32 → Int32 → Int32 → Nat → Nat → k_M → Prop) : Nat → Nat → Int32 → Nat → Nat → Nat → Nat → Nat → Int32 → Int32 → Int32 → Int32 → Int32 → Int32 → Int32 → Int32 → Int32 → Int32 → Int32 → Int32 → Nat → Nat → k_M → Prop
  | 0 => fun _ _ _ _ _ _ _ _ _ _ _ _ _ _ _ _ _ _ _ _ _ _ => False
  | n + 1 => fun x0 x1 x2 x3 x4 x5 x6 x7 x8 x9 x10 x11 x12 x13 x14 x15 x16 x17 x18 kc ks M =>
  (((16 : Int32) ≤ x18 →
      ∃ k171, wp_L_same_L132 G mc ms post K25 k171 x0 x1 x2 x3 x4 x5 x6 x7 x8 x9 x10 x11 x12 x13 x14 x15 x16 x17 (0 : Int32) kc ks M) ∧
      (¬ (16 : Int32) ≤ x18 →
      (kc ≤ mc ∧ ks ≤ ms ∧ wp_L_height G (fun r348 M349 =>
        ((r348 ≤ x15 →
        wp_L_same_b105 G mc ms post K25 (wp_L_same_L67 G mc ms post K25 n) x0 x1 x2 x3 x4 x5 x6 x7 x8 x9 x10 x11 x12 x13 (x14 + r348) x16 x17 x18 r348 x15 kc ks M349) ∧
        (¬ r348 ≤ x15 →
        wp_L_same_b105 G mc ms post K25 (wp_L_same_L67 G mc ms post K25 n) x0 x1 x2 x3 x4 x5 x6 x7 x8 x9 x10 x11 x12 x13 (x14 + r348) x16 x17 x18 r348 r348 kc ks M349))) x13 x18 x3 M)))
def wp_L_same_L25 (G : k_G) (mc ms : Nat) (post : Int32 → k_M → Prop) : Nat → Nat → Int32 → Nat → Nat → Nat → Nat → Nat → Int32 → Int32 → Int32 → Int32 → Int32 → Int32 → Int32 → Nat → Nat → k_M → Prop
  | 0 => fun _ _ _ _ _ _ _ _ _ _ _ _ _ _ _ _ _ => False
  | n + 1 => fun x0 x1 x2 x3 x4 x5 x6 x7 x8 x9 x10 x11 x12 x13 kc ks M =>
  (((8 : Int32) ≤ x13 →
      ∃ k2, wp_L_same_L574 G mc ms post k2 x0 x1 x2 x3 x4 x5 x6 x7 x8 x9 x10 x11 x12 (0 : Int32) kc ks M) ∧
      (¬ (8 : Int32) ≤ x13 →
      (∃ n166 f167, M x2 = some (kI G n166 f167) ∧ vp_in x13 n166 ∧
        ((¬ (f167 (x13).toNatClampNeg) = 0 →
        ∃ k170, wp_L_same_L67 G mc ms post (wp_L_same_L25 G mc ms post n) k170 x0 x1 x2 x3 x4 x5 x6 (x7 ||| ((1 : Int32) <<< (x13 &&& 31))) x8 x9 x10 x11 x12 x13 (0 : Int32) (0 : Int32) (-6 : Int32) (1 : Int32) (0 : Int32) kc ks M) ∧
        ((f167 (x13).toNatClampNeg) = 0 →
        (wp_L_same_L25 G mc ms post n) x0 x1 x2 x3 x4 x5 x6 x7 x8 x9 x10 x11 x12 (x13 + (1 : Int32)) kc ks M)))))
def wp_L_same (G : k_G) (mc ms : Nat) (post : Int32 → k_M → Prop) (p0 : Nat) (p1 : Int32) (p2 : Nat) (p3 : Nat) (p4 : Nat) (p5 : Nat) (p6 : Nat) (M0 : k_M) : Prop :=
  ∃ k1, wp_L_same_L25 G mc ms post k1 p0 p1 p2 p3 p4 p5 p6 (0 : Int32) (0 : Int32) (0 : Int32) (-6 : Int32) (-6 : Int32) (999 : Int32) (0 : Int32) 0 0 M0
set_option maxHeartbeats 4000000 in
set_option maxRecDepth 100000 in
theorem c_L_same (l : Launch) (G : k_G) (mc ms : Nat) (M0 : k_M) (sz : Nat) (post : Int32 → k_M → Prop) (p0 : Nat) (p1 : Int32) (p2 : Nat) (p3 : Nat) (p4 : Nat) (p5 : Nat) (p6 : Nat) (h : wp_L_same G mc ms post p0 p1 p2 p3 p4 p5 p6 M0) : Met l yL_same wsL_same ({ frames := 16, cells := mc, slots := ms, locals := 369 }) (va_Pc [.ref p0, .int p1, .ref p2, .ref p3, .ref p4, .ref p5, .ref p6] (kPre G M0 sz)) (va_Qi post (kB G M0 sz) (kA M0 sz)) mc ms (kA M0 sz) := by
  refine Met.ofW (cc := cL_same) (maxL := 20) (ret := (some .boolean)) (by decide) rfl ?_
  intro p e s m args below meth c s₁ B hml hv
  obtain ⟨rfl, hsz, hR, hE⟩ := hv
  have hx := B.exec
  have hb := B.bytes
  have hr := B.returns
  have hts := atoms_spec (ws := wsL_same) B.pre
  have hown : s.vm.findClass RL = some m.cls := findClass_of_methodNamed B.named
  have hlocks := B.notSynchronized
  subst hsz
  have hK := hE.1
  have hA : ∀ q, s.heap.size ≤ q → kA M0 s.heap.size q := kA.new
  have hS : va_S (kA M0 s.heap.size) s.heap s.heap [] := va_S.rf
  have hw1 := hts (.constantLong RL 12 (-1)) (by decide +kernel)
  have L725 : ∀ (n : Nat), ∀ (x0 : Nat) (x3 : Nat) (x5 : Nat) (x6 : Nat) (x7 : Int32) (x8 : Int32) (x9 : Int32) (x10 : Int32) (x11 : Int32) (x12 : Int32) (x13 : Int32) (kc : Nat) (ks : Nat) (M : k_M) (H : Heap) (locs : List Loc) (ls : Array Slot), wp_L_same_L725 G mc ms post n x0 x3 x5 x6 x7 x8 x9 x10 x11 x12 x13 kc ks M → lv_has ls 20 [(0, .ref x0), (3, .ref x3), (5, .ref x5), (6, .ref x6), (7, .int x7), (8, .int x8), (9, .int x9), (10, .int x10), (11, .int x11), (12, .int x12), (13, .int x13)] → kR G M (kA M0 s.heap.size) H → va_S (kA M0 s.heap.size) s.heap H locs → W p l e (headSpec wsL_same ({ frames := 16, cells := mc, slots := ms, locals := 369 })).room s m ([.ref p0, .int p1, .ref p2, .ref p3, .ref p4, .ref p5, .ref p6] : List Value).toArray below meth c H locs kc ks (MQ below (va_Qi post (kB G M0 s.heap.size) (kA M0 s.heap.size)) ([.ref p0, .int p1, .ref p2, .ref p3, .ref p4, .ref p5, .ref p6] : List Value).toArray s mc ms (kA M0 s.heap.size)) (F0 m 725 ls []) := by
    intro n
    induction n with
    | zero =>
      intro  x0 x3 x5 x6 x7 x8 x9 x10 x11 x12 x13 kc ks M H locs ls h
      exact False.elim h
    | succ n ih =>
      intro  x0 x3 x5 x6 x7 x8 x9 x10 x11 x12 x13 kc ks M H locs ls h hl hR hS
      refine lv_iload hx hb dL_same_725 (lv_at hl 10 rfl) ?_
      refine lv_aload hx hb dL_same_727 (lv_at hl 2 rfl) ?_
      refine lv_iconst (v := (1 : Int32)) hx hb dL_same_729 (by decide) ?_
      obtain ⟨n8, f9, hm10, hv11, h⟩ := h
      refine k_iald hx hb hK hR hm10 hv11 dL_same_730 ?_
      obtain ⟨ha, hb2⟩ := h
      refine lv_icmp_ge (tgt := 756) hx hb dL_same_731 (by decide) (fun hc => ?_) (fun hc => ?_)
      · replace h := ha hc
        refine lv_iload hx hb dL_same_756 (lv_at hl 8 rfl) ?_
        refine lv_istore (lv' := [(13, .int x11), (0, .ref x0), (3, .ref x3), (5, .ref x5), (6, .ref x6), (7, .int x7), (8, .int x8), (9, .int x9), (10, .int x10), (11, .int x11), (12, .int x12)]) hx hb dL_same_758 hl (by decide) rfl (fun ls hl => ?_)
        refine lv_aload_n hx hb dL_same_760 rfl (lv_at hl 1 rfl) ?_
        refine lv_iload hx hb dL_same_761 (lv_at hl 0 rfl) ?_
        refine lv_aload_n hx hb dL_same_763 rfl (lv_at hl 2 rfl) ?_
        obtain ⟨mc12, ms13, hc17, hc18, h⟩ := h
        refine k_calli (va_runS (As := [.ref x0, .int x11, .ref x3]) (rest := []) ⟨hx, hb, hml, hown, hts⟩ (c_L_text l G mc12 ms13 _ _ _ x0 x11 x3 h) (va_cwS 3 hts gL_same_L_text rfl rfl rfl (by decide +kernel) ⟨Nat.le_of_ble_eq_true rfl, Nat.le_of_ble_eq_true rfl⟩) (k_preS hR hS hA hE) rfl rfl hl.1 rfl (lv_room (Nat.le_of_ble_eq_true rfl)) dL_same_764 ⟨hc17, hc18⟩) hR hS hA (fun r14 M15 H locs h hR hS => ?_)
        refine lv_istore (lv' := [(14, .int r14), (13, .int x11), (0, .ref x0), (3, .ref x3), (5, .ref x5), (6, .ref x6), (7, .int x7), (8, .int x8), (9, .int x9), (10, .int x10), (11, .int x11), (12, .int x12)]) hx hb dL_same_767 hl (by decide) rfl (fun ls hl => ?_)
        refine lv_iload hx hb dL_same_769 (lv_at hl 0 rfl) ?_
        refine lv_aload_n hx hb dL_same_771 rfl (lv_at hl 2 rfl) ?_
        refine lv_iload hx hb dL_same_772 (lv_at hl 1 rfl) ?_
        refine lv_bipush (v := (7 : Int32)) hx hb dL_same_774 (by decide) ?_
        obtain ⟨fs24, hm23, h⟩ := h
        obtain ⟨mc19, ms20, hc25, hc26, h⟩ := h
        refine k_calli (va_runV (As := [.int x11, .int (7 : Int32)]) (rest := [.int r14]) ⟨hx, hb, hml, hown, hts⟩ (c_X3_of l G mc19 ms20 _ _ _ x0 x11 (7 : Int32) h) (cwV 2 hts gL_same_X3_of rfl rfl rfl (by decide +kernel) ⟨Nat.le_of_ble_eq_true rfl, Nat.le_of_ble_eq_true rfl⟩) (k_preV (q := (RX3, TX3, 8)) hm23 rfl hR hS hA hE) rfl rfl hl.1 rfl (lv_room (Nat.le_of_ble_eq_true rfl)) dL_same_776 ⟨hc25, hc26⟩) hR hS hA (fun r21 M22 H locs h hR hS => ?_)
        obtain ⟨ha, hb2⟩ := h
        refine lv_icmp_ne (tgt := 887) hx hb dL_same_779 (by decide) (fun hc => ?_) (fun hc => ?_)
        · replace h := ha hc
          refine lv_iconst (v := (0 : Int32)) hx hb dL_same_887 (by decide) ?_
          obtain ⟨hwc, hws, h⟩ := h
          refine W.widen (k := mc) (n := ms) hwc hws ?_
          exact k_reti hx hb hr hlocks (by decide) hR hS h dL_same_888
        · replace h := hb2 hc
          refine lv_aload_n hx hb dL_same_782 rfl (lv_at hl 2 rfl) ?_
          refine lv_iconst (v := (0 : Int32)) hx hb dL_same_783 (by decide) ?_
          obtain ⟨fs30, hm29, h⟩ := h
          obtain ⟨hc31, hc32, h⟩ := h
          refine k_calli0 (va_runV (As := [.int (0 : Int32)]) (rest := []) ⟨hx, hb, hml, hown, hts⟩ (c_X3_count l G _ _ _ x0 (0 : Int32) h) (cwV 1 hts gL_same_X3_count rfl rfl rfl (by decide +kernel) ⟨Nat.le_of_ble_eq_true rfl, Nat.le_of_ble_eq_true rfl⟩) (k_preV (q := (RX3, TX3, 8)) hm29 rfl hR hS hA hE) rfl rfl hl.1 rfl (lv_room (Nat.le_of_ble_eq_true rfl)) dL_same_784 ⟨hc31, hc32⟩) hR hS hA (fun r27 M28 H locs h hR hS => ?_)
          refine lv_iload hx hb dL_same_787 (lv_at hl 6 rfl) ?_
          obtain ⟨ha, hb2⟩ := h
          refine lv_icmp_ne (tgt := 887) hx hb dL_same_789 (by decide) (fun hc => ?_) (fun hc => ?_)
          · replace h := ha hc
            refine lv_iconst (v := (0 : Int32)) hx hb dL_same_887 (by decide) ?_
            obtain ⟨hwc, hws, h⟩ := h
            refine W.widen (k := mc) (n := ms) hwc hws ?_
            exact k_reti hx hb hr hlocks (by decide) hR hS h dL_same_888
          · replace h := hb2 hc
            refine lv_aload_n hx hb dL_same_792 rfl (lv_at hl 2 rfl) ?_
            refine lv_iconst (v := (1 : Int32)) hx hb dL_same_793 (by decide) ?_
            obtain ⟨fs36, hm35, h⟩ := h
            obtain ⟨hc37, hc38, h⟩ := h
            refine k_calli0 (va_runV (As := [.int (1 : Int32)]) (rest := []) ⟨hx, hb, hml, hown, hts⟩ (c_X3_count l G _ _ _ x0 (1 : Int32) h) (cwV 1 hts gL_same_X3_count rfl rfl rfl (by decide +kernel) ⟨Nat.le_of_ble_eq_true rfl, Nat.le_of_ble_eq_true rfl⟩) (k_preV (q := (RX3, TX3, 8)) hm35 rfl hR hS hA hE) rfl rfl hl.1 rfl (lv_room (Nat.le_of_ble_eq_true rfl)) dL_same_794 ⟨hc37, hc38⟩) hR hS hA (fun r33 M34 H locs h hR hS => ?_)
            refine lv_aload hx hb dL_same_797 (lv_at hl 4 rfl) ?_
            refine lv_iconst (v := (0 : Int32)) hx hb dL_same_799 (by decide) ?_
            obtain ⟨n39, f40, hm41, hv42, h⟩ := h
            refine k_iald hx hb hK hR hm41 hv42 dL_same_800 ?_
            obtain ⟨ha, hb2⟩ := h
            refine lv_icmp_ne (tgt := 887) hx hb dL_same_801 (by decide) (fun hc => ?_) (fun hc => ?_)
            · replace h := ha hc
              refine lv_iconst (v := (0 : Int32)) hx hb dL_same_887 (by decide) ?_
              obtain ⟨hwc, hws, h⟩ := h
              refine W.widen (k := mc) (n := ms) hwc hws ?_
              exact k_reti hx hb hr hlocks (by decide) hR hS h dL_same_888
            · replace h := hb2 hc
              refine lv_aload_n hx hb dL_same_804 rfl (lv_at hl 2 rfl) ?_
              refine lv_iconst (v := (2 : Int32)) hx hb dL_same_805 (by decide) ?_
              obtain ⟨fs46, hm45, h⟩ := h
              obtain ⟨hc47, hc48, h⟩ := h
              refine k_calli0 (va_runV (As := [.int (2 : Int32)]) (rest := []) ⟨hx, hb, hml, hown, hts⟩ (c_X3_count l G _ _ _ x0 (2 : Int32) h) (cwV 1 hts gL_same_X3_count rfl rfl rfl (by decide +kernel) ⟨Nat.le_of_ble_eq_true rfl, Nat.le_of_ble_eq_true rfl⟩) (k_preV (q := (RX3, TX3, 8)) hm45 rfl hR hS hA hE) rfl rfl hl.1 rfl (lv_room (Nat.le_of_ble_eq_true rfl)) dL_same_806 ⟨hc47, hc48⟩) hR hS hA (fun r43 M44 H locs h hR hS => ?_)
              refine lv_aload hx hb dL_same_809 (lv_at hl 4 rfl) ?_
              refine lv_iconst (v := (1 : Int32)) hx hb dL_same_811 (by decide) ?_
              obtain ⟨n49, f50, hm51, hv52, h⟩ := h
              refine k_iald hx hb hK hR hm51 hv52 dL_same_812 ?_
              obtain ⟨ha, hb2⟩ := h
              refine lv_icmp_ne (tgt := 887) hx hb dL_same_813 (by decide) (fun hc => ?_) (fun hc => ?_)
              · replace h := ha hc
                refine lv_iconst (v := (0 : Int32)) hx hb dL_same_887 (by decide) ?_
                obtain ⟨hwc, hws, h⟩ := h
                refine W.widen (k := mc) (n := ms) hwc hws ?_
                exact k_reti hx hb hr hlocks (by decide) hR hS h dL_same_888
              · replace h := hb2 hc
                refine lv_aload_n hx hb dL_same_816 rfl (lv_at hl 2 rfl) ?_
                refine lv_iconst (v := (3 : Int32)) hx hb dL_same_817 (by decide) ?_
                obtain ⟨fs56, hm55, h⟩ := h
                obtain ⟨hc57, hc58, h⟩ := h
                refine k_calli0 (va_runV (As := [.int (3 : Int32)]) (rest := []) ⟨hx, hb, hml, hown, hts⟩ (c_X3_count l G _ _ _ x0 (3 : Int32) h) (cwV 1 hts gL_same_X3_count rfl rfl rfl (by decide +kernel) ⟨Nat.le_of_ble_eq_true rfl, Nat.le_of_ble_eq_true rfl⟩) (k_preV (q := (RX3, TX3, 8)) hm55 rfl hR hS hA hE) rfl rfl hl.1 rfl (lv_room (Nat.le_of_ble_eq_true rfl)) dL_same_818 ⟨hc57, hc58⟩) hR hS hA (fun r53 M54 H locs h hR hS => ?_)
                refine lv_iload hx hb dL_same_821 (lv_at hl 7 rfl) ?_
                obtain ⟨ha, hb2⟩ := h
                refine lv_icmp_ne (tgt := 887) hx hb dL_same_823 (by decide) (fun hc => ?_) (fun hc => ?_)
                · replace h := ha hc
                  refine lv_iconst (v := (0 : Int32)) hx hb dL_same_887 (by decide) ?_
                  obtain ⟨hwc, hws, h⟩ := h
                  refine W.widen (k := mc) (n := ms) hwc hws ?_
                  exact k_reti hx hb hr hlocks (by decide) hR hS h dL_same_888
                · replace h := hb2 hc
                  refine lv_aload_n hx hb dL_same_826 rfl (lv_at hl 2 rfl) ?_
                  refine lv_iconst (v := (4 : Int32)) hx hb dL_same_827 (by decide) ?_
                  obtain ⟨fs62, hm61, h⟩ := h
                  obtain ⟨hc63, hc64, h⟩ := h
                  refine k_calli0 (va_runV (As := [.int (4 : Int32)]) (rest := []) ⟨hx, hb, hml, hown, hts⟩ (c_X3_count l G _ _ _ x0 (4 : Int32) h) (cwV 1 hts gL_same_X3_count rfl rfl rfl (by decide +kernel) ⟨Nat.le_of_ble_eq_true rfl, Nat.le_of_ble_eq_true rfl⟩) (k_preV (q := (RX3, TX3, 8)) hm61 rfl hR hS hA hE) rfl rfl hl.1 rfl (lv_room (Nat.le_of_ble_eq_true rfl)) dL_same_828 ⟨hc63, hc64⟩) hR hS hA (fun r59 M60 H locs h hR hS => ?_)
                  refine lv_iload hx hb dL_same_831 (lv_at hl 8 rfl) ?_
                  obtain ⟨ha, hb2⟩ := h
                  refine lv_icmp_ne (tgt := 887) hx hb dL_same_833 (by decide) (fun hc => ?_) (fun hc => ?_)
                  · replace h := ha hc
                    refine lv_iconst (v := (0 : Int32)) hx hb dL_same_887 (by decide) ?_
                    obtain ⟨hwc, hws, h⟩ := h
                    refine W.widen (k := mc) (n := ms) hwc hws ?_
                    exact k_reti hx hb hr hlocks (by decide) hR hS h dL_same_888
                  · replace h := hb2 hc
                    refine lv_aload_n hx hb dL_same_836 rfl (lv_at hl 2 rfl) ?_
                    refine lv_iconst (v := (5 : Int32)) hx hb dL_same_837 (by decide) ?_
                    obtain ⟨fs68, hm67, h⟩ := h
                    obtain ⟨hc69, hc70, h⟩ := h
                    refine k_calli0 (va_runV (As := [.int (5 : Int32)]) (rest := []) ⟨hx, hb, hml, hown, hts⟩ (c_X3_count l G _ _ _ x0 (5 : Int32) h) (cwV 1 hts gL_same_X3_count rfl rfl rfl (by decide +kernel) ⟨Nat.le_of_ble_eq_true rfl, Nat.le_of_ble_eq_true rfl⟩) (k_preV (q := (RX3, TX3, 8)) hm67 rfl hR hS hA hE) rfl rfl hl.1 rfl (lv_room (Nat.le_of_ble_eq_true rfl)) dL_same_838 ⟨hc69, hc70⟩) hR hS hA (fun r65 M66 H locs h hR hS => ?_)
                    refine lv_iload hx hb dL_same_841 (lv_at hl 9 rfl) ?_
                    obtain ⟨ha, hb2⟩ := h
                    refine lv_icmp_ne (tgt := 887) hx hb dL_same_843 (by decide) (fun hc => ?_) (fun hc => ?_)
                    · replace h := ha hc
                      refine lv_iconst (v := (0 : Int32)) hx hb dL_same_887 (by decide) ?_
                      obtain ⟨hwc, hws, h⟩ := h
                      refine W.widen (k := mc) (n := ms) hwc hws ?_
                      exact k_reti hx hb hr hlocks (by decide) hR hS h dL_same_888
                    · replace h := hb2 hc
                      refine lv_aload_n hx hb dL_same_846 rfl (lv_at hl 2 rfl) ?_
                      refine lv_iconst (v := (0 : Int32)) hx hb dL_same_847 (by decide) ?_
                      obtain ⟨fs74, hm73, h⟩ := h
                      obtain ⟨hc75, hc76, h⟩ := h
                      refine k_calli0 (va_runV (As := [.int (0 : Int32)]) (rest := []) ⟨hx, hb, hml, hown, hts⟩ (c_X3_laggard l G _ _ _ x0 (0 : Int32) h) (cwV 1 hts gL_same_X3_laggard rfl rfl rfl (by decide +kernel) ⟨Nat.le_of_ble_eq_true rfl, Nat.le_of_ble_eq_true rfl⟩) (k_preV (q := (RX3, TX3, 8)) hm73 rfl hR hS hA hE) rfl rfl hl.1 rfl (lv_room (Nat.le_of_ble_eq_true rfl)) dL_same_848 ⟨hc75, hc76⟩) hR hS hA (fun r71 M72 H locs h hR hS => ?_)
                      refine lv_iload hx hb dL_same_851 (lv_at hl 10 rfl) ?_
                      obtain ⟨ha, hb2⟩ := h
                      refine lv_icmp_ne (tgt := 887) hx hb dL_same_853 (by decide) (fun hc => ?_) (fun hc => ?_)
                      · replace h := ha hc
                        refine lv_iconst (v := (0 : Int32)) hx hb dL_same_887 (by decide) ?_
                        obtain ⟨hwc, hws, h⟩ := h
                        refine W.widen (k := mc) (n := ms) hwc hws ?_
                        exact k_reti hx hb hr hlocks (by decide) hR hS h dL_same_888
                      · replace h := hb2 hc
                        refine lv_aload_n hx hb dL_same_856 rfl (lv_at hl 2 rfl) ?_
                        refine lv_iconst (v := (1 : Int32)) hx hb dL_same_857 (by decide) ?_
                        obtain ⟨fs80, hm79, h⟩ := h
                        obtain ⟨hc81, hc82, h⟩ := h
                        refine k_calli0 (va_runV (As := [.int (1 : Int32)]) (rest := []) ⟨hx, hb, hml, hown, hts⟩ (c_X3_laggard l G _ _ _ x0 (1 : Int32) h) (cwV 1 hts gL_same_X3_laggard rfl rfl rfl (by decide +kernel) ⟨Nat.le_of_ble_eq_true rfl, Nat.le_of_ble_eq_true rfl⟩) (k_preV (q := (RX3, TX3, 8)) hm79 rfl hR hS hA hE) rfl rfl hl.1 rfl (lv_room (Nat.le_of_ble_eq_true rfl)) dL_same_858 ⟨hc81, hc82⟩) hR hS hA (fun r77 M78 H locs h hR hS => ?_)
                        refine lv_aload hx hb dL_same_861 (lv_at hl 4 rfl) ?_
                        refine lv_iconst (v := (1 : Int32)) hx hb dL_same_863 (by decide) ?_
                        obtain ⟨n83, f84, hm85, hv86, h⟩ := h
                        refine k_iald hx hb hK hR hm85 hv86 dL_same_864 ?_
                        refine lv_iload hx hb dL_same_865 (lv_at hl 11 rfl) ?_
                        refine lv_isub hx hb dL_same_867 ?_
                        obtain ⟨ha, hb2⟩ := h
                        refine lv_icmp_ne (tgt := 887) hx hb dL_same_868 (by decide) (fun hc => ?_) (fun hc => ?_)
                        · replace h := ha hc
                          refine lv_iconst (v := (0 : Int32)) hx hb dL_same_887 (by decide) ?_
                          obtain ⟨hwc, hws, h⟩ := h
                          refine W.widen (k := mc) (n := ms) hwc hws ?_
                          exact k_reti hx hb hr hlocks (by decide) hR hS h dL_same_888
                        · replace h := hb2 hc
                          refine lv_aload_n hx hb dL_same_871 rfl (lv_at hl 2 rfl) ?_
                          refine lv_aload hx hb dL_same_872 (lv_at hl 4 rfl) ?_
                          refine lv_iconst (v := (1 : Int32)) hx hb dL_same_874 (by decide) ?_
                          obtain ⟨n87, f88, hm89, hv90, h⟩ := h
                          refine k_iald hx hb hK hR hm89 hv90 dL_same_875 ?_
                          obtain ⟨fs94, hm93, h⟩ := h
                          obtain ⟨hc95, hc96, h⟩ := h
                          refine k_calli0 (va_runV (As := [.int (f88 ((1 : Int32)).toNatClampNeg)]) (rest := []) ⟨hx, hb, hml, hown, hts⟩ (c_X3_whose l G _ _ _ x0 (f88 ((1 : Int32)).toNatClampNeg) h) (cwV 1 hts gL_same_X3_whose rfl rfl rfl (by decide +kernel) ⟨Nat.le_of_ble_eq_true rfl, Nat.le_of_ble_eq_true rfl⟩) (k_preV (q := (RX3, TX3, 8)) hm93 rfl hR hS hA hE) rfl rfl hl.1 rfl (lv_room (Nat.le_of_ble_eq_true rfl)) dL_same_876 ⟨hc95, hc96⟩) hR hS hA (fun r91 M92 H locs h hR hS => ?_)
                          refine lv_iconst (v := (-1 : Int32)) hx hb dL_same_879 (by decide) ?_
                          obtain ⟨ha, hb2⟩ := h
                          refine lv_icmp_ne (tgt := 887) hx hb dL_same_880 (by decide) (fun hc => ?_) (fun hc => ?_)
                          · replace h := ha hc
                            refine lv_iconst (v := (0 : Int32)) hx hb dL_same_887 (by decide) ?_
                            obtain ⟨hwc, hws, h⟩ := h
                            refine W.widen (k := mc) (n := ms) hwc hws ?_
                            exact k_reti hx hb hr hlocks (by decide) hR hS h dL_same_888
                          · replace h := hb2 hc
                            refine lv_iconst (v := (1 : Int32)) hx hb dL_same_883 (by decide) ?_
                            refine lv_goto (tgt := 888) hx hb dL_same_884 (by decide) ?_
                            obtain ⟨hwc, hws, h⟩ := h
                            refine W.widen (k := mc) (n := ms) hwc hws ?_
                            exact k_reti hx hb hr hlocks (by decide) hR hS h dL_same_888
      · replace h := hb2 hc
        refine lv_aload_n hx hb dL_same_734 rfl (lv_at hl 0 rfl) ?_
        refine lv_iload hx hb dL_same_735 (lv_at hl 10 rfl) ?_
        obtain ⟨fs100, hm99, h⟩ := h
        obtain ⟨hc101, hc102, h⟩ := h
        refine k_calli0 (va_runV (As := [.int x13]) (rest := []) ⟨hx, hb, hml, hown, hts⟩ (c_X3_whose l G _ _ _ x0 x13 h) (cwV 1 hts gL_same_X3_whose rfl rfl rfl (by decide +kernel) ⟨Nat.le_of_ble_eq_true rfl, Nat.le_of_ble_eq_true rfl⟩) (k_preV (q := (RX3, TX3, 8)) hm99 rfl hR hS hA hE) rfl rfl hl.1 rfl (lv_room (Nat.le_of_ble_eq_true rfl)) dL_same_737 ⟨hc101, hc102⟩) hR hS hA (fun r97 M98 H locs h hR hS => ?_)
        refine lv_aload hx hb dL_same_740 (lv_at hl 3 rfl) ?_
        refine lv_iload hx hb dL_same_742 (lv_at hl 10 rfl) ?_
        obtain ⟨n103, f104, hm105, hv106, h⟩ := h
        refine k_iald hx hb hK hR hm105 hv106 dL_same_744 ?_
        obtain ⟨ha, hb2⟩ := h
        refine lv_icmp_eq (tgt := 750) hx hb dL_same_745 (by decide) (fun hc => ?_) (fun hc => ?_)
        · replace h := ha hc
          refine lv_iinc (v := (x13 + (1 : Int32))) (lv' := [(13, .int (x13 + (1 : Int32))), (0, .ref x0), (3, .ref x3), (5, .ref x5), (6, .ref x6), (7, .int x7), (8, .int x8), (9, .int x9), (10, .int x10), (11, .int x11), (12, .int x12)]) hx hb dL_same_750 hl (k := 10) rfl rfl (by decide) rfl (fun ls hl => ?_)
          refine lv_goto (tgt := 725) hx hb dL_same_753 (by decide) ?_
          exact ih _ _ _ _ _ _ _ _ _ _ _ _ _ _ _ _ _ h (lv_sub hl [1, 2, 3, 4, 5, 6, 7, 8, 9, 10, 0] rfl) hR hS
        · replace h := hb2 hc
          refine lv_iconst (v := (0 : Int32)) hx hb dL_same_748 (by decide) ?_
          obtain ⟨hwc, hws, h⟩ := h
          refine W.widen (k := mc) (n := ms) hwc hws ?_
          exact k_reti hx hb hr hlocks (by decide) hR hS h dL_same_749
  have L589 : ∀ (K574 : Nat → Int32 → Nat → Nat → Nat → Nat → Nat → Int32 → Int32 → Int32 → Int32 → Int32 → Int32 → Int32 → Nat → Nat → k_M → Prop) (hK574 : ∀ (x0 : Nat) (x1 : Int32) (x2 : Nat) (x3 : Nat) (x4 : Nat) (x5 : Nat) (x6 : Nat) (x7 : Int32) (x8 : Int32) (x9 : Int32) (x10 : Int32) (x11 : Int32) (x12 : Int32) (x13 : Int32) (kc : Nat) (ks : Nat) (M : k_M) (H : Heap) (locs : List Loc) (ls : Array Slot), K574 x0 x1 x2 x3 x4 x5 x6 x7 x8 x9 x10 x11 x12 x13 kc ks M → lv_has ls 20 [(0, .ref x0), (1, .int x1), (2, .ref x2), (3, .ref x3), (4, .ref x4), (5, .ref x5), (6, .ref x6), (7, .int x7), (8, .int x8), (9, .int x9), (10, .int x10), (11, .int x11), (12, .int x12), (13, .int x13)] → kR G M (kA M0 s.heap.size) H → va_S (kA M0 s.heap.size) s.heap H locs → W p l e (headSpec wsL_same ({ frames := 16, cells := mc, slots := ms, locals := 369 })).room s m ([.ref p0, .int p1, .ref p2, .ref p3, .ref p4, .ref p5, .ref p6] : List Value).toArray below meth c H locs kc ks (MQ below (va_Qi post (kB G M0 s.heap.size) (kA M0 s.heap.size)) ([.ref p0, .int p1, .ref p2, .ref p3, .ref p4, .ref p5, .ref p6] : List Value).toArray s mc ms (kA M0 s.heap.size)) (F0 m 574 ls [])) (n : Nat), ∀ (x0 : Nat) (x1 : Int32) (x2 : Nat) (x3 : Nat) (x4 : Nat) (x5 : Nat) (x6 : Nat) (x7 : Int32) (x8 : Int32) (x9 : Int32) (x10 : Int32) (x11 : Int32) (x12 : Int32) (x13 : Int32) (x14 : Int32) (x15 : Int32) (kc : Nat) (ks : Nat) (M : k_M) (H : Heap) (locs : List Loc) (ls : Array Slot), wp_L_same_L589 G mc ms post K574 n x0 x1 x2 x3 x4 x5 x6 x7 x8 x9 x10 x11 x12 x13 x14 x15 kc ks M → lv_has ls 20 [(0, .ref x0), (1, .int x1), (2, .ref x2), (3, .ref x3), (4, .ref x4), (5, .ref x5), (6, .ref x6), (7, .int x7), (8, .int x8), (9, .int x9), (10, .int x10), (11, .int x11), (12, .int x12), (13, .int x13), (14, .int x14), (15, .int x15)] → kR G M (kA M0 s.heap.size) H → va_S (kA M0 s.heap.size) s.heap H locs → W p l e (headSpec wsL_same ({ frames := 16, cells := mc, slots := ms, locals := 369 })).room s m ([.ref p0, .int p1, .ref p2, .ref p3, .ref p4, .ref p5, .ref p6] : List Value).toArray below meth c H locs kc ks (MQ below (va_Qi post (kB G M0 s.heap.size) (kA M0 s.heap.size)) ([.ref p0, .int p1, .ref p2, .ref p3, .ref p4, .ref p5, .ref p6] : List Value).toArray s mc ms (kA M0 s.heap.size)) (F0 m 589 ls []) := by
    intro K574 hK574 n
    induction n with
    | zero =>
      intro  x0 x1 x2 x3 x4 x5 x6 x7 x8 x9 x10 x11 x12 x13 x14 x15 kc ks M H locs ls h
      exact False.elim h
    | succ n ih =>
      intro  x0 x1 x2 x3 x4 x5 x6 x7 x8 x9 x10 x11 x12 x13 x14 x15 kc ks M H locs ls h hl hR hS
      refine lv_iload hx hb dL_same_589 (lv_at hl 15 rfl) ?_
      refine lv_bipush (v := (16 : Int32)) hx hb dL_same_591 (by decide) ?_
      obtain ⟨ha, hb2⟩ := h
      refine lv_icmp_ge (tgt := 618) hx hb dL_same_593 (by decide) (fun hc => ?_) (fun hc => ?_)
      · replace h := ha hc
        refine lv_aload_n hx hb dL_same_618 rfl (lv_at hl 0 rfl) ?_
        refine lv_iload hx hb dL_same_619 (lv_at hl 13 rfl) ?_
        refine lv_iconst (v := (0 : Int32)) hx hb dL_same_621 (by decide) ?_
        obtain ⟨fs111, hm110, h⟩ := h
        obtain ⟨hc112, hc113, h⟩ := h
        refine k_calli0 (va_runV (As := [.int x13, .int (0 : Int32)]) (rest := []) ⟨hx, hb, hml, hown, hts⟩ (c_X3_ofMessage l G _ _ _ x0 x13 (0 : Int32) h) (cwV 2 hts gL_same_X3_ofMessage rfl rfl rfl (by decide +kernel) ⟨Nat.le_of_ble_eq_true rfl, Nat.le_of_ble_eq_true rfl⟩) (k_preV (q := (RX3, TX3, 8)) hm110 rfl hR hS hA hE) rfl rfl hl.1 rfl (lv_room (Nat.le_of_ble_eq_true rfl)) dL_same_622 ⟨hc112, hc113⟩) hR hS hA (fun r108 M109 H locs h hR hS => ?_)
        refine lv_aload_n hx hb dL_same_625 rfl (lv_at hl 2 rfl) ?_
        refine lv_bipush (v := (8 : Int32)) hx hb dL_same_626 (by decide) ?_
        refine lv_iload hx hb dL_same_628 (lv_at hl 13 rfl) ?_
        refine lv_iadd hx hb dL_same_630 ?_
        obtain ⟨n114, f115, hm116, hv117, h⟩ := h
        refine k_iald hx hb hK hR hm116 hv117 dL_same_631 ?_
        obtain ⟨ha, hb2⟩ := h
        refine lv_icmp_ne (tgt := 714) hx hb dL_same_632 (by decide) (fun hc => ?_) (fun hc => ?_)
        · replace h := ha hc
          refine lv_iconst (v := (0 : Int32)) hx hb dL_same_714 (by decide) ?_
          obtain ⟨hwc, hws, h⟩ := h
          refine W.widen (k := mc) (n := ms) hwc hws ?_
          exact k_reti hx hb hr hlocks (by decide) hR hS h dL_same_715
        · replace h := hb2 hc
          refine lv_aload_n hx hb dL_same_635 rfl (lv_at hl 0 rfl) ?_
          refine lv_iload hx hb dL_same_636 (lv_at hl 13 rfl) ?_
          refine lv_iconst (v := (1 : Int32)) hx hb dL_same_638 (by decide) ?_
          obtain ⟨fs121, hm120, h⟩ := h
          obtain ⟨hc122, hc123, h⟩ := h
          refine k_calli0 (va_runV (As := [.int x13, .int (1 : Int32)]) (rest := []) ⟨hx, hb, hml, hown, hts⟩ (c_X3_ofMessage l G _ _ _ x0 x13 (1 : Int32) h) (cwV 2 hts gL_same_X3_ofMessage rfl rfl rfl (by decide +kernel) ⟨Nat.le_of_ble_eq_true rfl, Nat.le_of_ble_eq_true rfl⟩) (k_preV (q := (RX3, TX3, 8)) hm120 rfl hR hS hA hE) rfl rfl hl.1 rfl (lv_room (Nat.le_of_ble_eq_true rfl)) dL_same_639 ⟨hc122, hc123⟩) hR hS hA (fun r118 M119 H locs h hR hS => ?_)
          refine lv_iload hx hb dL_same_642 (lv_at hl 14 rfl) ?_
          obtain ⟨ha, hb2⟩ := h
          refine lv_icmp_ne (tgt := 714) hx hb dL_same_644 (by decide) (fun hc => ?_) (fun hc => ?_)
          · replace h := ha hc
            refine lv_iconst (v := (0 : Int32)) hx hb dL_same_714 (by decide) ?_
            obtain ⟨hwc, hws, h⟩ := h
            refine W.widen (k := mc) (n := ms) hwc hws ?_
            exact k_reti hx hb hr hlocks (by decide) hR hS h dL_same_715
          · replace h := hb2 hc
            refine lv_aload_n hx hb dL_same_647 rfl (lv_at hl 0 rfl) ?_
            refine lv_iload hx hb dL_same_648 (lv_at hl 13 rfl) ?_
            refine lv_iconst (v := (2 : Int32)) hx hb dL_same_650 (by decide) ?_
            obtain ⟨fs127, hm126, h⟩ := h
            obtain ⟨hc128, hc129, h⟩ := h
            refine k_calli0 (va_runV (As := [.int x13, .int (2 : Int32)]) (rest := []) ⟨hx, hb, hml, hown, hts⟩ (c_X3_ofMessage l G _ _ _ x0 x13 (2 : Int32) h) (cwV 2 hts gL_same_X3_ofMessage rfl rfl rfl (by decide +kernel) ⟨Nat.le_of_ble_eq_true rfl, Nat.le_of_ble_eq_true rfl⟩) (k_preV (q := (RX3, TX3, 8)) hm126 rfl hR hS hA hE) rfl rfl hl.1 rfl (lv_room (Nat.le_of_ble_eq_true rfl)) dL_same_651 ⟨hc128, hc129⟩) hR hS hA (fun r124 M125 H locs h hR hS => ?_)
            refine lv_aload hx hb dL_same_654 (lv_at hl 4 rfl) ?_
            refine lv_bipush (v := (8 : Int32)) hx hb dL_same_656 (by decide) ?_
            refine lv_iload hx hb dL_same_658 (lv_at hl 13 rfl) ?_
            refine lv_iadd hx hb dL_same_660 ?_
            obtain ⟨n130, f131, hm132, hv133, h⟩ := h
            refine k_lald hx hb hK hR hm132 hv133 dL_same_661 ?_
            obtain ⟨hc137, hc138, h⟩ := h
            refine k_calli0 (va_runS (As := [.long (f131 (((8 : Int32) + x13)).toNatClampNeg)]) (rest := [.int r124]) ⟨hx, hb, hml, hown, hts⟩ (c_L_bits l G _ _ _ (f131 (((8 : Int32) + x13)).toNatClampNeg) h) (va_cwS 1 hts gL_same_L_bits rfl rfl rfl (by decide +kernel) ⟨Nat.le_of_ble_eq_true rfl, Nat.le_of_ble_eq_true rfl⟩) (k_preS hR hS hA hE) rfl rfl hl.1 rfl (lv_room (Nat.le_of_ble_eq_true rfl)) dL_same_662 ⟨hc137, hc138⟩) hR hS hA (fun r134 M135 H locs h hR hS => ?_)
            obtain ⟨ha, hb2⟩ := h
            refine lv_icmp_ne (tgt := 714) hx hb dL_same_665 (by decide) (fun hc => ?_) (fun hc => ?_)
            · replace h := ha hc
              refine lv_iconst (v := (0 : Int32)) hx hb dL_same_714 (by decide) ?_
              obtain ⟨hwc, hws, h⟩ := h
              refine W.widen (k := mc) (n := ms) hwc hws ?_
              exact k_reti hx hb hr hlocks (by decide) hR hS h dL_same_715
            · replace h := hb2 hc
              refine lv_aload_n hx hb dL_same_668 rfl (lv_at hl 0 rfl) ?_
              refine lv_iload hx hb dL_same_669 (lv_at hl 13 rfl) ?_
              refine lv_iconst (v := (3 : Int32)) hx hb dL_same_671 (by decide) ?_
              obtain ⟨fs142, hm141, h⟩ := h
              obtain ⟨hc143, hc144, h⟩ := h
              refine k_calli0 (va_runV (As := [.int x13, .int (3 : Int32)]) (rest := []) ⟨hx, hb, hml, hown, hts⟩ (c_X3_ofMessage l G _ _ _ x0 x13 (3 : Int32) h) (cwV 2 hts gL_same_X3_ofMessage rfl rfl rfl (by decide +kernel) ⟨Nat.le_of_ble_eq_true rfl, Nat.le_of_ble_eq_true rfl⟩) (k_preV (q := (RX3, TX3, 8)) hm141 rfl hR hS hA hE) rfl rfl hl.1 rfl (lv_room (Nat.le_of_ble_eq_true rfl)) dL_same_672 ⟨hc143, hc144⟩) hR hS hA (fun r139 M140 H locs h hR hS => ?_)
              refine lv_bipush (v := (8 : Int32)) hx hb dL_same_675 (by decide) ?_
              refine lv_iload hx hb dL_same_677 (lv_at hl 13 rfl) ?_
              refine lv_iadd hx hb dL_same_679 ?_
              refine lv_aload_n hx hb dL_same_680 rfl (lv_at hl 3 rfl) ?_
              obtain ⟨hc148, hc149, h⟩ := h
              refine k_calli0 (va_runS (As := [.int ((8 : Int32) + x13), .ref x3]) (rest := [.int r139]) ⟨hx, hb, hml, hown, hts⟩ (c_L_knots l G _ _ _ ((8 : Int32) + x13) x3 h) (va_cwS 2 hts gL_same_L_knots rfl rfl rfl (by decide +kernel) ⟨Nat.le_of_ble_eq_true rfl, Nat.le_of_ble_eq_true rfl⟩) (k_preS hR hS hA hE) rfl rfl hl.1 rfl (lv_room (Nat.le_of_ble_eq_true rfl)) dL_same_681 ⟨hc148, hc149⟩) hR hS hA (fun r145 M146 H locs h hR hS => ?_)
              obtain ⟨ha, hb2⟩ := h
              refine lv_icmp_ne (tgt := 714) hx hb dL_same_684 (by decide) (fun hc => ?_) (fun hc => ?_)
              · replace h := ha hc
                refine lv_iconst (v := (0 : Int32)) hx hb dL_same_714 (by decide) ?_
                obtain ⟨hwc, hws, h⟩ := h
                refine W.widen (k := mc) (n := ms) hwc hws ?_
                exact k_reti hx hb hr hlocks (by decide) hR hS h dL_same_715
              · replace h := hb2 hc
                refine lv_aload_n hx hb dL_same_687 rfl (lv_at hl 0 rfl) ?_
                refine lv_iconst (v := (1 : Int32)) hx hb dL_same_688 (by decide) ?_
                refine lv_iload hx hb dL_same_689 (lv_at hl 13 rfl) ?_
                refine lv_iload_n hx hb dL_same_691 rfl (lv_at hl 1 rfl) ?_
                refine lv_bipush (v := (15 : Int32)) hx hb dL_same_692 (by decide) ?_
                refine lv_iand hx hb dL_same_694 ?_
                obtain ⟨fs153, hm152, h⟩ := h
                obtain ⟨hc154, hc155, h⟩ := h
                refine k_calli0 (va_runV (As := [.int (1 : Int32), .int x13, .int (x1 &&& (15 : Int32))]) (rest := []) ⟨hx, hb, hml, hown, hts⟩ (c_X3_height l G _ _ _ x0 (1 : Int32) x13 (x1 &&& (15 : Int32)) h) (cwV 3 hts gL_same_X3_height rfl rfl rfl (by decide +kernel) ⟨Nat.le_of_ble_eq_true rfl, Nat.le_of_ble_eq_true rfl⟩) (k_preV (q := (RX3, TX3, 8)) hm152 rfl hR hS hA hE) rfl rfl hl.1 rfl (lv_room (Nat.le_of_ble_eq_true rfl)) dL_same_695 ⟨hc154, hc155⟩) hR hS hA (fun r150 M151 H locs h hR hS => ?_)
                refine lv_bipush (v := (8 : Int32)) hx hb dL_same_698 (by decide) ?_
                refine lv_iload hx hb dL_same_700 (lv_at hl 13 rfl) ?_
                refine lv_iadd hx hb dL_same_702 ?_
                refine lv_iload_n hx hb dL_same_703 rfl (lv_at hl 1 rfl) ?_
                refine lv_bipush (v := (15 : Int32)) hx hb dL_same_704 (by decide) ?_
                refine lv_iand hx hb dL_same_706 ?_
                refine lv_aload_n hx hb dL_same_707 rfl (lv_at hl 3 rfl) ?_
                obtain ⟨hc159, hc160, h⟩ := h
                refine k_calli0 (va_runS (As := [.int ((8 : Int32) + x13), .int (x1 &&& (15 : Int32)), .ref x3]) (rest := [.int r150]) ⟨hx, hb, hml, hown, hts⟩ (c_L_height l G _ _ _ ((8 : Int32) + x13) (x1 &&& (15 : Int32)) x3 h) (va_cwS 3 hts gL_same_L_height rfl rfl rfl (by decide +kernel) ⟨Nat.le_of_ble_eq_true rfl, Nat.le_of_ble_eq_true rfl⟩) (k_preS hR hS hA hE) rfl rfl hl.1 rfl (lv_room (Nat.le_of_ble_eq_true rfl)) dL_same_708 ⟨hc159, hc160⟩) hR hS hA (fun r156 M157 H locs h hR hS => ?_)
                obtain ⟨ha, hb2⟩ := h
                refine lv_icmp_eq (tgt := 716) hx hb dL_same_711 (by decide) (fun hc => ?_) (fun hc => ?_)
                · replace h := ha hc
                  refine lv_iinc (v := (x13 + (1 : Int32))) (lv' := [(13, .int (x13 + (1 : Int32))), (0, .ref x0), (1, .int x1), (2, .ref x2), (3, .ref x3), (4, .ref x4), (5, .ref x5), (6, .ref x6), (7, .int x7), (8, .int x8), (9, .int x9), (10, .int x10), (11, .int x11), (12, .int x12), (14, .int x14), (15, .int x15)]) hx hb dL_same_716 hl (k := 13) rfl rfl (by decide) rfl (fun ls hl => ?_)
                  refine lv_goto (tgt := 574) hx hb dL_same_719 (by decide) ?_
                  exact hK574 _ _ _ _ _ _ _ _ _ _ _ _ _ _ _ _ _ _ _ _ h (lv_sub hl [1, 2, 3, 4, 5, 6, 7, 8, 9, 10, 11, 12, 13, 0] rfl) hR hS
                · replace h := hb2 hc
                  refine lv_iconst (v := (0 : Int32)) hx hb dL_same_714 (by decide) ?_
                  obtain ⟨hwc, hws, h⟩ := h
                  refine W.widen (k := mc) (n := ms) hwc hws ?_
                  exact k_reti hx hb hr hlocks (by decide) hR hS h dL_same_715
      · replace h := hb2 hc
        refine lv_iload hx hb dL_same_596 (lv_at hl 14 rfl) ?_
        refine lv_bipush (v := (8 : Int32)) hx hb dL_same_598 (by decide) ?_
        refine lv_iload hx hb dL_same_600 (lv_at hl 13 rfl) ?_
        refine lv_iadd hx hb dL_same_602 ?_
        refine lv_iload hx hb dL_same_603 (lv_at hl 15 rfl) ?_
        refine lv_aload_n hx hb dL_same_605 rfl (lv_at hl 3 rfl) ?_
        obtain ⟨hc164, hc165, h⟩ := h
        refine k_calli0 (va_runS (As := [.int ((8 : Int32) + x13), .int x15, .ref x3]) (rest := [.int x14]) ⟨hx, hb, hml, hown, hts⟩ (c_L_height l G _ _ _ ((8 : Int32) + x13) x15 x3 h) (va_cwS 3 hts gL_same_L_height rfl rfl rfl (by decide +kernel) ⟨Nat.le_of_ble_eq_true rfl, Nat.le_of_ble_eq_true rfl⟩) (k_preS hR hS hA hE) rfl rfl hl.1 rfl (lv_room (Nat.le_of_ble_eq_true rfl)) dL_same_606 ⟨hc164, hc165⟩) hR hS hA (fun r161 M162 H locs h hR hS => ?_)
        refine lv_iadd hx hb dL_same_609 ?_
        refine lv_istore (lv' := [(14, .int (x14 + r161)), (0, .ref x0), (1, .int x1), (2, .ref x2), (3, .ref x3), (4, .ref x4), (5, .ref x5), (6, .ref x6), (7, .int x7), (8, .int x8), (9, .int x9), (10, .int x10), (11, .int x11), (12, .int x12), (13, .int x13), (15, .int x15)]) hx hb dL_same_610 hl (by decide) rfl (fun ls hl => ?_)
        refine lv_iinc (v := (x15 + (1 : Int32))) (lv' := [(15, .int (x15 + (1 : Int32))), (14, .int (x14 + r161)), (0, .ref x0), (1, .int x1), (2, .ref x2), (3, .ref x3), (4, .ref x4), (5, .ref x5), (6, .ref x6), (7, .int x7), (8, .int x8), (9, .int x9), (10, .int x10), (11, .int x11), (12, .int x12), (13, .int x13)]) hx hb dL_same_612 hl (k := 15) rfl rfl (by decide) rfl (fun ls hl => ?_)
        refine lv_goto (tgt := 589) hx hb dL_same_615 (by decide) ?_
        exact ih _ _ _ _ _ _ _ _ _ _ _ _ _ _ _ _ _ _ _ _ _ _ h (lv_sub hl [2, 3, 4, 5, 6, 7, 8, 9, 10, 11, 12, 13, 14, 15, 1, 0] rfl) hR hS
  have L574 : ∀ (n : Nat), ∀ (x0 : Nat) (x1 : Int32) (x2 : Nat) (x3 : Nat) (x4 : Nat) (x5 : Nat) (x6 : Nat) (x7 : Int32) (x8 : Int32) (x9 : Int32) (x10 : Int32) (x11 : Int32) (x12 : Int32) (x13 : Int32) (kc : Nat) (ks : Nat) (M : k_M) (H : Heap) (locs : List Loc) (ls : Array Slot), wp_L_same_L574 G mc ms post n x0 x1 x2 x3 x4 x5 x6 x7 x8 x9 x10 x11 x12 x13 kc ks M → lv_has ls 20 [(0, .ref x0), (1, .int x1), (2, .ref x2), (3, .ref x3), (4, .ref x4), (5, .ref x5), (6, .ref x6), (7, .int x7), (8, .int x8), (9, .int x9), (10, .int x10), (11, .int x11), (12, .int x12), (13, .int x13)] → kR G M (kA M0 s.heap.size) H → va_S (kA M0 s.heap.size) s.heap H locs → W p l e (headSpec wsL_same ({ frames := 16, cells := mc, slots := ms, locals := 369 })).room s m ([.ref p0, .int p1, .ref p2, .ref p3, .ref p4, .ref p5, .ref p6] : List Value).toArray below meth c H locs kc ks (MQ below (va_Qi post (kB G M0 s.heap.size) (kA M0 s.heap.size)) ([.ref p0, .int p1, .ref p2, .ref p3, .ref p4, .ref p5, .ref p6] : List Value).toArray s mc ms (kA M0 s.heap.size)) (F0 m 574 ls []) := by
    intro n
    induction n with
    | zero =>
      intro  x0 x1 x2 x3 x4 x5 x6 x7 x8 x9 x10 x11 x12 x13 kc ks M H locs ls h
      exact False.elim h
    | succ n ih =>
      intro  x0 x1 x2 x3 x4 x5 x6 x7 x8 x9 x10 x11 x12 x13 kc ks M H locs ls h hl hR hS
      refine lv_iload hx hb dL_same_574 (lv_at hl 13 rfl) ?_
      refine lv_aload hx hb dL_same_576 (lv_at hl 5 rfl) ?_
      refine lv_iconst (v := (0 : Int32)) hx hb dL_same_578 (by decide) ?_
      obtain ⟨n3, f4, hm5, hv6, h⟩ := h
      refine k_iald hx hb hK hR hm5 hv6 dL_same_579 ?_
      obtain ⟨ha, hb2⟩ := h
      refine lv_icmp_ge (tgt := 722) hx hb dL_same_580 (by decide) (fun hc => ?_) (fun hc => ?_)
      · replace h := ha hc
        refine lv_iconst (v := (0 : Int32)) hx hb dL_same_722 (by decide) ?_
        refine lv_istore (lv' := [(13, .int (0 : Int32)), (0, .ref x0), (1, .int x1), (2, .ref x2), (3, .ref x3), (4, .ref x4), (5, .ref x5), (6, .ref x6), (7, .int x7), (8, .int x8), (9, .int x9), (10, .int x10), (11, .int x11), (12, .int x12)]) hx hb dL_same_723 hl (by decide) rfl (fun ls hl => ?_)
        obtain ⟨k7, h⟩ := h
        exact L725 k7 _ _ _ _ _ _ _ _ _ _ _ _ _ _ _ _ _ h (lv_sub hl [1, 4, 6, 7, 8, 9, 10, 11, 12, 13, 0] rfl) hR hS
      · replace h := hb2 hc
        refine lv_iconst (v := (0 : Int32)) hx hb dL_same_583 (by decide) ?_
        refine lv_istore (lv' := [(14, .int (0 : Int32)), (0, .ref x0), (1, .int x1), (2, .ref x2), (3, .ref x3), (4, .ref x4), (5, .ref x5), (6, .ref x6), (7, .int x7), (8, .int x8), (9, .int x9), (10, .int x10), (11, .int x11), (12, .int x12), (13, .int x13)]) hx hb dL_same_584 hl (by decide) rfl (fun ls hl => ?_)
        refine lv_iconst (v := (0 : Int32)) hx hb dL_same_586 (by decide) ?_
        refine lv_istore (lv' := [(15, .int (0 : Int32)), (14, .int (0 : Int32)), (0, .ref x0), (1, .int x1), (2, .ref x2), (3, .ref x3), (4, .ref x4), (5, .ref x5), (6, .ref x6), (7, .int x7), (8, .int x8), (9, .int x9), (10, .int x10), (11, .int x11), (12, .int x12), (13, .int x13)]) hx hb dL_same_587 hl (by decide) rfl (fun ls hl => ?_)
        obtain ⟨k107, h⟩ := h
        exact L589 _ ih k107 _ _ _ _ _ _ _ _ _ _ _ _ _ _ _ _ _ _ _ _ _ _ h (lv_sub hl [2, 3, 4, 5, 6, 7, 8, 9, 10, 11, 12, 13, 14, 15, 1, 0] rfl) hR hS
  have b453 : ∀ (K25 : Nat → Int32 → Nat → Nat → Nat → Nat → Nat → Int32 → Int32 → Int32 → Int32 → Int32 → Int32 → Int32 → Nat → Nat → k_M → Prop) (hK25 : ∀ (x0 : Nat) (x1 : Int32) (x2 : Nat) (x3 : Nat) (x4 : Nat) (x5 : Nat) (x6 : Nat) (x7 : Int32) (x8 : Int32) (x9 : Int32) (x10 : Int32) (x11 : Int32) (x12 : Int32) (x13 : Int32) (kc : Nat) (ks : Nat) (M : k_M) (H : Heap) (locs : List Loc) (ls : Array Slot), K25 x0 x1 x2 x3 x4 x5 x6 x7 x8 x9 x10 x11 x12 x13 kc ks M → lv_has ls 20 [(0, .ref x0), (1, .int x1), (2, .ref x2), (3, .ref x3), (4, .ref x4), (5, .ref x5), (6, .ref x6), (7, .int x7), (8, .int x8), (9, .int x9), (10, .int x10), (11, .int x11), (12, .int x12), (13, .int x13)] → kR G M (kA M0 s.heap.size) H → va_S (kA M0 s.heap.size) s.heap H locs → W p l e (headSpec wsL_same ({ frames := 16, cells := mc, slots := ms, locals := 369 })).room s m ([.ref p0, .int p1, .ref p2, .ref p3, .ref p4, .ref p5, .ref p6] : List Value).toArray below meth c H locs kc ks (MQ below (va_Qi post (kB G M0 s.heap.size) (kA M0 s.heap.size)) ([.ref p0, .int p1, .ref p2, .ref p3, .ref p4, .ref p5, .ref p6] : List Value).toArray s mc ms (kA M0 s.heap.size)) (F0 m 25 ls [])), ∀ (x0 : Nat) (x1 : Int32) (x2 : Nat) (x3 : Nat) (x4 : Nat) (x5 : Nat) (x6 : Nat) (x7 : Int32) (x8 : Int32) (x9 : Int32) (x11 : Int32) (x12 : Int32) (x13 : Int32) (x14 : Int32) (x15 : Int32) (x16 : Int32) (x18 : Int32) (s0 : Int32) (kc : Nat) (ks : Nat) (M : k_M) (H : Heap) (locs : List Loc) (ls : Array Slot), wp_L_same_b453 G mc ms post K25 x0 x1 x2 x3 x4 x5 x6 x7 x8 x9 x11 x12 x13 x14 x15 x16 x18 s0 kc ks M → lv_has ls 20 [(0, .ref x0), (1, .int x1), (2, .ref x2), (3, .ref x3), (4, .ref x4), (5, .ref x5), (6, .ref x6), (7, .int x7), (8, .int x8), (9, .int x9), (11, .int x11), (12, .int x12), (13, .int x13), (14, .int x14), (15, .int x15), (16, .int x16), (18, .int x18)] → kR G M (kA M0 s.heap.size) H → va_S (kA M0 s.heap.size) s.heap H locs → W p l e (headSpec wsL_same ({ frames := 16, cells := mc, slots := ms, locals := 369 })).room s m ([.ref p0, .int p1, .ref p2, .ref p3, .ref p4, .ref p5, .ref p6] : List Value).toArray below meth c H locs kc ks (MQ below (va_Qi post (kB G M0 s.heap.size) (kA M0 s.heap.size)) ([.ref p0, .int p1, .ref p2, .ref p3, .ref p4, .ref p5, .ref p6] : List Value).toArray s mc ms (kA M0 s.heap.size)) (F0 m 453 ls [.int s0]) := by
    intro K25 hK25 x0 x1 x2 x3 x4 x5 x6 x7 x8 x9 x11 x12 x13 x14 x15 x16 x18 s0 kc ks M H locs ls h hl hR hS
    refine lv_istore (lv' := [(10, .int s0), (0, .ref x0), (1, .int x1), (2, .ref x2), (3, .ref x3), (4, .ref x4), (5, .ref x5), (6, .ref x6), (7, .int x7), (8, .int x8), (9, .int x9), (11, .int x11), (12, .int x12), (13, .int x13), (14, .int x14), (15, .int x15), (16, .int x16), (18, .int x18)]) hx hb dL_same_453 hl (by decide) rfl (fun ls hl => ?_)
    refine lv_iload hx hb dL_same_455 (lv_at hl 10 rfl) ?_
    refine lv_iload hx hb dL_same_457 (lv_at hl 13 rfl) ?_
    refine lv_aload_n hx hb dL_same_459 rfl (lv_at hl 4 rfl) ?_
    obtain ⟨hc194, hc195, h⟩ := h
    refine k_calli0 (va_runS (As := [.int x13, .ref x3]) (rest := [.int x9]) ⟨hx, hb, hml, hown, hts⟩ (c_L_knots l G _ _ _ x13 x3 h) (va_cwS 2 hts gL_same_L_knots rfl rfl rfl (by decide +kernel) ⟨Nat.le_of_ble_eq_true rfl, Nat.le_of_ble_eq_true rfl⟩) (k_preS hR hS hA hE) rfl rfl hl.1 rfl (lv_room (Nat.le_of_ble_eq_true rfl)) dL_same_460 ⟨hc194, hc195⟩) hR hS hA (fun r191 M192 H locs h hR hS => ?_)
    refine lv_iadd hx hb dL_same_463 ?_
    refine lv_istore (lv' := [(9, .int (x9 + r191)), (10, .int s0), (0, .ref x0), (1, .int x1), (2, .ref x2), (3, .ref x3), (4, .ref x4), (5, .ref x5), (6, .ref x6), (7, .int x7), (8, .int x8), (11, .int x11), (12, .int x12), (13, .int x13), (14, .int x14), (15, .int x15), (16, .int x16), (18, .int x18)]) hx hb dL_same_464 hl (by decide) rfl (fun ls hl => ?_)
    refine lv_aload_n hx hb dL_same_466 rfl (lv_at hl 2 rfl) ?_
    refine lv_iload hx hb dL_same_467 (lv_at hl 13 rfl) ?_
    refine lv_iconst (v := (0 : Int32)) hx hb dL_same_469 (by decide) ?_
    obtain ⟨fs201, hm200, h⟩ := h
    obtain ⟨mc196, ms197, hc202, hc203, h⟩ := h
    refine k_calli (va_runV (As := [.int x13, .int (0 : Int32)]) (rest := []) ⟨hx, hb, hml, hown, hts⟩ (c_X3_of l G mc196 ms197 _ _ _ x0 x13 (0 : Int32) h) (cwV 2 hts gL_same_X3_of rfl rfl rfl (by decide +kernel) ⟨Nat.le_of_ble_eq_true rfl, Nat.le_of_ble_eq_true rfl⟩) (k_preV (q := (RX3, TX3, 8)) hm200 rfl hR hS hA hE) rfl rfl hl.1 rfl (lv_room (Nat.le_of_ble_eq_true rfl)) dL_same_470 ⟨hc202, hc203⟩) hR hS hA (fun r198 M199 H locs h hR hS => ?_)
    refine lv_aload_n hx hb dL_same_473 rfl (lv_at hl 4 rfl) ?_
    refine lv_iload hx hb dL_same_474 (lv_at hl 13 rfl) ?_
    obtain ⟨n204, f205, hm206, hv207, h⟩ := h
    refine k_iald hx hb hK hR hm206 hv207 dL_same_476 ?_
    obtain ⟨ha, hb2⟩ := h
    refine lv_icmp_ne (tgt := 563) hx hb dL_same_477 (by decide) (fun hc => ?_) (fun hc => ?_)
    · replace h := ha hc
      refine lv_iconst (v := (0 : Int32)) hx hb dL_same_563 (by decide) ?_
      obtain ⟨hwc, hws, h⟩ := h
      refine W.widen (k := mc) (n := ms) hwc hws ?_
      exact k_reti hx hb hr hlocks (by decide) hR hS h dL_same_564
    · replace h := hb2 hc
      refine lv_aload_n hx hb dL_same_480 rfl (lv_at hl 2 rfl) ?_
      refine lv_iload hx hb dL_same_481 (lv_at hl 13 rfl) ?_
      refine lv_iconst (v := (1 : Int32)) hx hb dL_same_483 (by decide) ?_
      obtain ⟨fs213, hm212, h⟩ := h
      obtain ⟨mc208, ms209, hc214, hc215, h⟩ := h
      refine k_calli (va_runV (As := [.int x13, .int (1 : Int32)]) (rest := []) ⟨hx, hb, hml, hown, hts⟩ (c_X3_of l G mc208 ms209 _ _ _ x0 x13 (1 : Int32) h) (cwV 2 hts gL_same_X3_of rfl rfl rfl (by decide +kernel) ⟨Nat.le_of_ble_eq_true rfl, Nat.le_of_ble_eq_true rfl⟩) (k_preV (q := (RX3, TX3, 8)) hm212 rfl hR hS hA hE) rfl rfl hl.1 rfl (lv_room (Nat.le_of_ble_eq_true rfl)) dL_same_484 ⟨hc214, hc215⟩) hR hS hA (fun r210 M211 H locs h hR hS => ?_)
      refine lv_aload_n hx hb dL_same_487 rfl (lv_at hl 4 rfl) ?_
      refine lv_iload hx hb dL_same_488 (lv_at hl 13 rfl) ?_
      obtain ⟨n216, f217, hm218, hv219, h⟩ := h
      refine k_iald hx hb hK hR hm218 hv219 dL_same_490 ?_
      refine lv_i2l hx hb dL_same_491 rfl ?_
      obtain ⟨hc223, hc224, h⟩ := h
      refine k_calli0 (va_runS (As := [.long ((f217 (x13).toNatClampNeg)).toInt64]) (rest := [.int r210]) ⟨hx, hb, hml, hown, hts⟩ (c_L_bits l G _ _ _ ((f217 (x13).toNatClampNeg)).toInt64 h) (va_cwS 1 hts gL_same_L_bits rfl rfl rfl (by decide +kernel) ⟨Nat.le_of_ble_eq_true rfl, Nat.le_of_ble_eq_true rfl⟩) (k_preS hR hS hA hE) rfl rfl hl.1 rfl (lv_room (Nat.le_of_ble_eq_true rfl)) dL_same_492 ⟨hc223, hc224⟩) hR hS hA (fun r220 M221 H locs h hR hS => ?_)
      obtain ⟨ha, hb2⟩ := h
      refine lv_icmp_ne (tgt := 563) hx hb dL_same_495 (by decide) (fun hc => ?_) (fun hc => ?_)
      · replace h := ha hc
        refine lv_iconst (v := (0 : Int32)) hx hb dL_same_563 (by decide) ?_
        obtain ⟨hwc, hws, h⟩ := h
        refine W.widen (k := mc) (n := ms) hwc hws ?_
        exact k_reti hx hb hr hlocks (by decide) hR hS h dL_same_564
      · replace h := hb2 hc
        refine lv_aload_n hx hb dL_same_498 rfl (lv_at hl 2 rfl) ?_
        refine lv_iload hx hb dL_same_499 (lv_at hl 13 rfl) ?_
        refine lv_iconst (v := (2 : Int32)) hx hb dL_same_501 (by decide) ?_
        obtain ⟨fs230, hm229, h⟩ := h
        obtain ⟨mc225, ms226, hc231, hc232, h⟩ := h
        refine k_calli (va_runV (As := [.int x13, .int (2 : Int32)]) (rest := []) ⟨hx, hb, hml, hown, hts⟩ (c_X3_of l G mc225 ms226 _ _ _ x0 x13 (2 : Int32) h) (cwV 2 hts gL_same_X3_of rfl rfl rfl (by decide +kernel) ⟨Nat.le_of_ble_eq_true rfl, Nat.le_of_ble_eq_true rfl⟩) (k_preV (q := (RX3, TX3, 8)) hm229 rfl hR hS hA hE) rfl rfl hl.1 rfl (lv_room (Nat.le_of_ble_eq_true rfl)) dL_same_502 ⟨hc231, hc232⟩) hR hS hA (fun r227 M228 H locs h hR hS => ?_)
        refine lv_iload hx hb dL_same_505 (lv_at hl 15 rfl) ?_
        obtain ⟨ha, hb2⟩ := h
        refine lv_icmp_ne (tgt := 563) hx hb dL_same_507 (by decide) (fun hc => ?_) (fun hc => ?_)
        · replace h := ha hc
          refine lv_iconst (v := (0 : Int32)) hx hb dL_same_563 (by decide) ?_
          obtain ⟨hwc, hws, h⟩ := h
          refine W.widen (k := mc) (n := ms) hwc hws ?_
          exact k_reti hx hb hr hlocks (by decide) hR hS h dL_same_564
        · replace h := hb2 hc
          refine lv_aload_n hx hb dL_same_510 rfl (lv_at hl 2 rfl) ?_
          refine lv_iload hx hb dL_same_511 (lv_at hl 13 rfl) ?_
          refine lv_iconst (v := (3 : Int32)) hx hb dL_same_513 (by decide) ?_
          obtain ⟨fs238, hm237, h⟩ := h
          obtain ⟨mc233, ms234, hc239, hc240, h⟩ := h
          refine k_calli (va_runV (As := [.int x13, .int (3 : Int32)]) (rest := []) ⟨hx, hb, hml, hown, hts⟩ (c_X3_of l G mc233 ms234 _ _ _ x0 x13 (3 : Int32) h) (cwV 2 hts gL_same_X3_of rfl rfl rfl (by decide +kernel) ⟨Nat.le_of_ble_eq_true rfl, Nat.le_of_ble_eq_true rfl⟩) (k_preV (q := (RX3, TX3, 8)) hm237 rfl hR hS hA hE) rfl rfl hl.1 rfl (lv_room (Nat.le_of_ble_eq_true rfl)) dL_same_514 ⟨hc239, hc240⟩) hR hS hA (fun r235 M236 H locs h hR hS => ?_)
          refine lv_iload hx hb dL_same_517 (lv_at hl 14 rfl) ?_
          obtain ⟨ha, hb2⟩ := h
          refine lv_icmp_ne (tgt := 563) hx hb dL_same_519 (by decide) (fun hc => ?_) (fun hc => ?_)
          · replace h := ha hc
            refine lv_iconst (v := (0 : Int32)) hx hb dL_same_563 (by decide) ?_
            obtain ⟨hwc, hws, h⟩ := h
            refine W.widen (k := mc) (n := ms) hwc hws ?_
            exact k_reti hx hb hr hlocks (by decide) hR hS h dL_same_564
          · replace h := hb2 hc
            refine lv_aload_n hx hb dL_same_522 rfl (lv_at hl 2 rfl) ?_
            refine lv_iload hx hb dL_same_523 (lv_at hl 13 rfl) ?_
            refine lv_iconst (v := (4 : Int32)) hx hb dL_same_525 (by decide) ?_
            obtain ⟨fs246, hm245, h⟩ := h
            obtain ⟨mc241, ms242, hc247, hc248, h⟩ := h
            refine k_calli (va_runV (As := [.int x13, .int (4 : Int32)]) (rest := []) ⟨hx, hb, hml, hown, hts⟩ (c_X3_of l G mc241 ms242 _ _ _ x0 x13 (4 : Int32) h) (cwV 2 hts gL_same_X3_of rfl rfl rfl (by decide +kernel) ⟨Nat.le_of_ble_eq_true rfl, Nat.le_of_ble_eq_true rfl⟩) (k_preV (q := (RX3, TX3, 8)) hm245 rfl hR hS hA hE) rfl rfl hl.1 rfl (lv_room (Nat.le_of_ble_eq_true rfl)) dL_same_526 ⟨hc247, hc248⟩) hR hS hA (fun r243 M244 H locs h hR hS => ?_)
            refine lv_iload hx hb dL_same_529 (lv_at hl 17 rfl) ?_
            obtain ⟨ha, hb2⟩ := h
            refine lv_icmp_ne (tgt := 563) hx hb dL_same_531 (by decide) (fun hc => ?_) (fun hc => ?_)
            · replace h := ha hc
              refine lv_iconst (v := (0 : Int32)) hx hb dL_same_563 (by decide) ?_
              obtain ⟨hwc, hws, h⟩ := h
              refine W.widen (k := mc) (n := ms) hwc hws ?_
              exact k_reti hx hb hr hlocks (by decide) hR hS h dL_same_564
            · replace h := hb2 hc
              refine lv_aload_n hx hb dL_same_534 rfl (lv_at hl 2 rfl) ?_
              refine lv_iload hx hb dL_same_535 (lv_at hl 13 rfl) ?_
              refine lv_iconst (v := (5 : Int32)) hx hb dL_same_537 (by decide) ?_
              obtain ⟨fs254, hm253, h⟩ := h
              obtain ⟨mc249, ms250, hc255, hc256, h⟩ := h
              refine k_calli (va_runV (As := [.int x13, .int (5 : Int32)]) (rest := []) ⟨hx, hb, hml, hown, hts⟩ (c_X3_of l G mc249 ms250 _ _ _ x0 x13 (5 : Int32) h) (cwV 2 hts gL_same_X3_of rfl rfl rfl (by decide +kernel) ⟨Nat.le_of_ble_eq_true rfl, Nat.le_of_ble_eq_true rfl⟩) (k_preV (q := (RX3, TX3, 8)) hm253 rfl hR hS hA hE) rfl rfl hl.1 rfl (lv_room (Nat.le_of_ble_eq_true rfl)) dL_same_538 ⟨hc255, hc256⟩) hR hS hA (fun r251 M252 H locs h hR hS => ?_)
              refine lv_iload hx hb dL_same_541 (lv_at hl 16 rfl) ?_
              obtain ⟨ha, hb2⟩ := h
              refine lv_icmp_ne (tgt := 563) hx hb dL_same_543 (by decide) (fun hc => ?_) (fun hc => ?_)
              · replace h := ha hc
                refine lv_iconst (v := (0 : Int32)) hx hb dL_same_563 (by decide) ?_
                obtain ⟨hwc, hws, h⟩ := h
                refine W.widen (k := mc) (n := ms) hwc hws ?_
                exact k_reti hx hb hr hlocks (by decide) hR hS h dL_same_564
              · replace h := hb2 hc
                refine lv_aload_n hx hb dL_same_546 rfl (lv_at hl 2 rfl) ?_
                refine lv_iload hx hb dL_same_547 (lv_at hl 13 rfl) ?_
                refine lv_bipush (v := (6 : Int32)) hx hb dL_same_549 (by decide) ?_
                obtain ⟨fs262, hm261, h⟩ := h
                obtain ⟨mc257, ms258, hc263, hc264, h⟩ := h
                refine k_calli (va_runV (As := [.int x13, .int (6 : Int32)]) (rest := []) ⟨hx, hb, hml, hown, hts⟩ (c_X3_of l G mc257 ms258 _ _ _ x0 x13 (6 : Int32) h) (cwV 2 hts gL_same_X3_of rfl rfl rfl (by decide +kernel) ⟨Nat.le_of_ble_eq_true rfl, Nat.le_of_ble_eq_true rfl⟩) (k_preV (q := (RX3, TX3, 8)) hm261 rfl hR hS hA hE) rfl rfl hl.1 rfl (lv_room (Nat.le_of_ble_eq_true rfl)) dL_same_551 ⟨hc263, hc264⟩) hR hS hA (fun r259 M260 H locs h hR hS => ?_)
                refine lv_iload hx hb dL_same_554 (lv_at hl 13 rfl) ?_
                refine lv_aload_n hx hb dL_same_556 rfl (lv_at hl 5 rfl) ?_
                obtain ⟨hc268, hc269, h⟩ := h
                refine k_calli0 (va_runS (As := [.int x13, .ref x3]) (rest := [.int r259]) ⟨hx, hb, hml, hown, hts⟩ (c_L_knots l G _ _ _ x13 x3 h) (va_cwS 2 hts gL_same_L_knots rfl rfl rfl (by decide +kernel) ⟨Nat.le_of_ble_eq_true rfl, Nat.le_of_ble_eq_true rfl⟩) (k_preS hR hS hA hE) rfl rfl hl.1 rfl (lv_room (Nat.le_of_ble_eq_true rfl)) dL_same_557 ⟨hc268, hc269⟩) hR hS hA (fun r265 M266 H locs h hR hS => ?_)
                obtain ⟨ha, hb2⟩ := h
                refine lv_icmp_eq (tgt := 565) hx hb dL_same_560 (by decide) (fun hc => ?_) (fun hc => ?_)
                · replace h := ha hc
                  refine lv_iinc (v := (x13 + (1 : Int32))) (lv' := [(13, .int (x13 + (1 : Int32))), (9, .int (x9 + r191)), (10, .int s0), (0, .ref x0), (1, .int x1), (2, .ref x2), (3, .ref x3), (4, .ref x4), (5, .ref x5), (6, .ref x6), (7, .int x7), (8, .int x8), (11, .int x11), (12, .int x12), (14, .int x14), (15, .int x15), (16, .int x16), (18, .int x18)]) hx hb dL_same_565 hl (k := 13) rfl rfl (by decide) rfl (fun ls hl => ?_)
                  refine lv_goto (tgt := 25) hx hb dL_same_568 (by decide) ?_
                  exact hK25 _ _ _ _ _ _ _ _ _ _ _ _ _ _ _ _ _ _ _ _ h (lv_sub hl [3, 4, 5, 6, 7, 8, 9, 10, 11, 1, 2, 12, 13, 0] rfl) hR hS
                · replace h := hb2 hc
                  refine lv_iconst (v := (0 : Int32)) hx hb dL_same_563 (by decide) ?_
                  obtain ⟨hwc, hws, h⟩ := h
                  refine W.widen (k := mc) (n := ms) hwc hws ?_
                  exact k_reti hx hb hr hlocks (by decide) hR hS h dL_same_564
  have b451 : ∀ (K25 : Nat → Int32 → Nat → Nat → Nat → Nat → Nat → Int32 → Int32 → Int32 → Int32 → Int32 → Int32 → Int32 → Nat → Nat → k_M → Prop) (hK25 : ∀ (x0 : Nat) (x1 : Int32) (x2 : Nat) (x3 : Nat) (x4 : Nat) (x5 : Nat) (x6 : Nat) (x7 : Int32) (x8 : Int32) (x9 : Int32) (x10 : Int32) (x11 : Int32) (x12 : Int32) (x13 : Int32) (kc : Nat) (ks : Nat) (M : k_M) (H : Heap) (locs : List Loc) (ls : Array Slot), K25 x0 x1 x2 x3 x4 x5 x6 x7 x8 x9 x10 x11 x12 x13 kc ks M → lv_has ls 20 [(0, .ref x0), (1, .int x1), (2, .ref x2), (3, .ref x3), (4, .ref x4), (5, .ref x5), (6, .ref x6), (7, .int x7), (8, .int x8), (9, .int x9), (10, .int x10), (11, .int x11), (12, .int x12), (13, .int x13)] → kR G M (kA M0 s.heap.size) H → va_S (kA M0 s.heap.size) s.heap H locs → W p l e (headSpec wsL_same ({ frames := 16, cells := mc, slots := ms, locals := 369 })).room s m ([.ref p0, .int p1, .ref p2, .ref p3, .ref p4, .ref p5, .ref p6] : List Value).toArray below meth c H locs kc ks (MQ below (va_Qi post (kB G M0 s.heap.size) (kA M0 s.heap.size)) ([.ref p0, .int p1, .ref p2, .ref p3, .ref p4, .ref p5, .ref p6] : List Value).toArray s mc ms (kA M0 s.heap.size)) (F0 m 25 ls [])), ∀ (x0 : Nat) (x1 : Int32) (x2 : Nat) (x3 : Nat) (x4 : Nat) (x5 : Nat) (x6 : Nat) (x7 : Int32) (x8 : Int32) (x9 : Int32) (x10 : Int32) (x11 : Int32) (x12 : Int32) (x13 : Int32) (x14 : Int32) (x15 : Int32) (x16 : Int32) (x18 : Int32) (kc : Nat) (ks : Nat) (M : k_M) (H : Heap) (locs : List Loc) (ls : Array Slot), wp_L_same_b451 G mc ms post K25 x0 x1 x2 x3 x4 x5 x6 x7 x8 x9 x10 x11 x12 x13 x14 x15 x16 x18 kc ks M → lv_has ls 20 [(0, .ref x0), (1, .int x1), (2, .ref x2), (3, .ref x3), (4, .ref x4), (5, .ref x5), (6, .ref x6), (7, .int x7), (8, .int x8), (9, .int x9), (10, .int x10), (11, .int x11), (12, .int x12), (13, .int x13), (14, .int x14), (15, .int x15), (16, .int x16), (18, .int x18)] → kR G M (kA M0 s.heap.size) H → va_S (kA M0 s.heap.size) s.heap H locs → W p l e (headSpec wsL_same ({ frames := 16, cells := mc, slots := ms, locals := 369 })).room s m ([.ref p0, .int p1, .ref p2, .ref p3, .ref p4, .ref p5, .ref p6] : List Value).toArray below meth c H locs kc ks (MQ below (va_Qi post (kB G M0 s.heap.size) (kA M0 s.heap.size)) ([.ref p0, .int p1, .ref p2, .ref p3, .ref p4, .ref p5, .ref p6] : List Value).toArray s mc ms (kA M0 s.heap.size)) (F0 m 451 ls []) := by
    intro K25 hK25 x0 x1 x2 x3 x4 x5 x6 x7 x8 x9 x10 x11 x12 x13 x14 x15 x16 x18 kc ks M H locs ls h hl hR hS
    refine lv_iload hx hb dL_same_451 (lv_at hl 10 rfl) ?_
    exact b453 _ hK25 _ _ _ _ _ _ _ _ _ _ _ _ _ _ _ _ _ _ _ _ _ _ _ _ h (lv_sub hl [0, 1, 2, 3, 4, 5, 6, 7, 8, 9, 11, 12, 13, 14, 15, 16, 17] rfl) hR hS
  have b436 : ∀ (K25 : Nat → Int32 → Nat → Nat → Nat → Nat → Nat → Int32 → Int32 → Int32 → Int32 → Int32 → Int32 → Int32 → Nat → Nat → k_M → Prop) (hK25 : ∀ (x0 : Nat) (x1 : Int32) (x2 : Nat) (x3 : Nat) (x4 : Nat) (x5 : Nat) (x6 : Nat) (x7 : Int32) (x8 : Int32) (x9 : Int32) (x10 : Int32) (x11 : Int32) (x12 : Int32) (x13 : Int32) (kc : Nat) (ks : Nat) (M : k_M) (H : Heap) (locs : List Loc) (ls : Array Slot), K25 x0 x1 x2 x3 x4 x5 x6 x7 x8 x9 x10 x11 x12 x13 kc ks M → lv_has ls 20 [(0, .ref x0), (1, .int x1), (2, .ref x2), (3, .ref x3), (4, .ref x4), (5, .ref x5), (6, .ref x6), (7, .int x7), (8, .int x8), (9, .int x9), (10, .int x10), (11, .int x11), (12, .int x12), (13, .int x13)] → kR G M (kA M0 s.heap.size) H → va_S (kA M0 s.heap.size) s.heap H locs → W p l e (headSpec wsL_same ({ frames := 16, cells := mc, slots := ms, locals := 369 })).room s m ([.ref p0, .int p1, .ref p2, .ref p3, .ref p4, .ref p5, .ref p6] : List Value).toArray below meth c H locs kc ks (MQ below (va_Qi post (kB G M0 s.heap.size) (kA M0 s.heap.size)) ([.ref p0, .int p1, .ref p2, .ref p3, .ref p4, .ref p5, .ref p6] : List Value).toArray s mc ms (kA M0 s.heap.size)) (F0 m 25 ls [])), ∀ (x0 : Nat) (x1 : Int32) (x2 : Nat) (x3 : Nat) (x4 : Nat) (x5 : Nat) (x6 : Nat) (x7 : Int32) (x8 : Int32) (x9 : Int32) (x10 : Int32) (x11 : Int32) (x12 : Int32) (x13 : Int32) (x14 : Int32) (x15 : Int32) (x16 : Int32) (x17 : Int32) (x18 : Int32) (kc : Nat) (ks : Nat) (M : k_M) (H : Heap) (locs : List Loc) (ls : Array Slot), wp_L_same_b436 G mc ms post K25 x0 x1 x2 x3 x4 x5 x6 x7 x8 x9 x10 x11 x12 x13 x14 x15 x16 x17 x18 kc ks M → lv_has ls 20 [(0, .ref x0), (1, .int x1), (2, .ref x2), (3, .ref x3), (4, .ref x4), (5, .ref x5), (6, .ref x6), (7, .int x7), (8, .int x8), (9, .int x9), (10, .int x10), (11, .int x11), (12, .int x12), (13, .int x13), (14, .int x14), (15, .int x15), (16, .int x16), (17, .int x17), (18, .int x18)] → kR G M (kA M0 s.heap.size) H → va_S (kA M0 s.heap.size) s.heap H locs → W p l e (headSpec wsL_same ({ frames := 16, cells := mc, slots := ms, locals := 369 })).room s m ([.ref p0, .int p1, .ref p2, .ref p3, .ref p4, .ref p5, .ref p6] : List Value).toArray below meth c H locs kc ks (MQ below (va_Qi post (kB G M0 s.heap.size) (kA M0 s.heap.size)) ([.ref p0, .int p1, .ref p2, .ref p3, .ref p4, .ref p5, .ref p6] : List Value).toArray s mc ms (kA M0 s.heap.size)) (F0 m 436 ls []) := by
    intro K25 hK25 x0 x1 x2 x3 x4 x5 x6 x7 x8 x9 x10 x11 x12 x13 x14 x15 x16 x17 x18 kc ks M H locs ls h hl hR hS
    refine lv_iload hx hb dL_same_436 (lv_at hl 10 rfl) ?_
    obtain ⟨ha, hb2⟩ := h
    refine lv_if_ge (tgt := 451) hx hb dL_same_438 (by decide) (fun hc => ?_) (fun hc => ?_)
    · replace h := ha hc
      exact b451 _ hK25 _ _ _ _ _ _ _ _ _ _ _ _ _ _ _ _ _ _ _ _ _ _ _ _ h (lv_sub hl [0, 1, 2, 3, 4, 5, 6, 7, 8, 9, 10, 11, 12, 13, 14, 15, 16, 18] rfl) hR hS
    · replace h := hb2 hc
      refine lv_iload hx hb dL_same_441 (lv_at hl 17 rfl) ?_
      obtain ⟨ha, hb2⟩ := h
      refine lv_if_eq (tgt := 451) hx hb dL_same_443 (by decide) (fun hc => ?_) (fun hc => ?_)
      · replace h := ha hc
        exact b451 _ hK25 _ _ _ _ _ _ _ _ _ _ _ _ _ _ _ _ _ _ _ _ _ _ _ _ h (lv_sub hl [0, 1, 2, 3, 4, 5, 6, 7, 8, 9, 10, 11, 12, 13, 14, 15, 16, 18] rfl) hR hS
      · replace h := hb2 hc
        refine lv_iload hx hb dL_same_446 (lv_at hl 13 rfl) ?_
        refine lv_goto (tgt := 453) hx hb dL_same_448 (by decide) ?_
        exact b453 _ hK25 _ _ _ _ _ _ _ _ _ _ _ _ _ _ _ _ _ _ _ _ _ _ _ _ h (lv_sub hl [0, 1, 2, 3, 4, 5, 6, 7, 8, 9, 11, 12, 13, 14, 15, 16, 18] rfl) hR hS
  have L336 : ∀ (K25 : Nat → Int32 → Nat → Nat → Nat → Nat → Nat → Int32 → Int32 → Int32 → Int32 → Int32 → Int32 → Int32 → Nat → Nat → k_M → Prop) (hK25 : ∀ (x0 : Nat) (x1 : Int32) (x2 : Nat) (x3 : Nat) (x4 : Nat) (x5 : Nat) (x6 : Nat) (x7 : Int32) (x8 : Int32) (x9 : Int32) (x10 : Int32) (x11 : Int32) (x12 : Int32) (x13 : Int32) (kc : Nat) (ks : Nat) (M : k_M) (H : Heap) (locs : List Loc) (ls : Array Slot), K25 x0 x1 x2 x3 x4 x5 x6 x7 x8 x9 x10 x11 x12 x13 kc ks M → lv_has ls 20 [(0, .ref x0), (1, .int x1), (2, .ref x2), (3, .ref x3), (4, .ref x4), (5, .ref x5), (6, .ref x6), (7, .int x7), (8, .int x8), (9, .int x9), (10, .int x10), (11, .int x11), (12, .int x12), (13, .int x13)] → kR G M (kA M0 s.heap.size) H → va_S (kA M0 s.heap.size) s.heap H locs → W p l e (headSpec wsL_same ({ frames := 16, cells := mc, slots := ms, locals := 369 })).room s m ([.ref p0, .int p1, .ref p2, .ref p3, .ref p4, .ref p5, .ref p6] : List Value).toArray below meth c H locs kc ks (MQ below (va_Qi post (kB G M0 s.heap.size) (kA M0 s.heap.size)) ([.ref p0, .int p1, .ref p2, .ref p3, .ref p4, .ref p5, .ref p6] : List Value).toArray s mc ms (kA M0 s.heap.size)) (F0 m 25 ls [])) (n : Nat), ∀ (x0 : Nat) (x1 : Int32) (x2 : Nat) (x3 : Nat) (x4 : Nat) (x5 : Nat) (x6 : Nat) (x7 : Int32) (x8 : Int32) (x9 : Int32) (x10 : Int32) (x11 : Int32) (x12 : Int32) (x13 : Int32) (x14 : Int32) (x15 : Int32) (x16 : Int32) (x17 : Int32) (x18 : Int32) (kc : Nat) (ks : Nat) (M : k_M) (H : Heap) (locs : List Loc) (ls : Array Slot), wp_L_same_L336 G mc ms post K25 n x0 x1 x2 x3 x4 x5 x6 x7 x8 x9 x10 x11 x12 x13 x14 x15 x16 x17 x18 kc ks M → lv_has ls 20 [(0, .ref x0), (1, .int x1), (2, .ref x2), (3, .ref x3), (4, .ref x4), (5, .ref x5), (6, .ref x6), (7, .int x7), (8, .int x8), (9, .int x9), (10, .int x10), (11, .int x11), (12, .int x12), (13, .int x13), (14, .int x14), (15, .int x15), (16, .int x16), (17, .int x17), (18, .int x18)] → kR G M (kA M0 s.heap.size) H → va_S (kA M0 s.heap.size) s.heap H locs → W p l e (headSpec wsL_same ({ frames := 16, cells := mc, slots := ms, locals := 369 })).room s m ([.ref p0, .int p1, .ref p2, .ref p3, .ref p4, .ref p5, .ref p6] : List Value).toArray below meth c H locs kc ks (MQ below (va_Qi post (kB G M0 s.heap.size) (kA M0 s.heap.size)) ([.ref p0, .int p1, .ref p2, .ref p3, .ref p4, .ref p5, .ref p6] : List Value).toArray s mc ms (kA M0 s.heap.size)) (F0 m 336 ls []) := by
    intro K25 hK25 n
    induction n with
    | zero =>
      intro  x0 x1 x2 x3 x4 x5 x6 x7 x8 x9 x10 x11 x12 x13 x14 x15 x16 x17 x18 kc ks M H locs ls h
      exact False.elim h
    | succ n ih =>
      intro  x0 x1 x2 x3 x4 x5 x6 x7 x8 x9 x10 x11 x12 x13 x14 x15 x16 x17 x18 kc ks M H locs ls h hl hR hS
      refine lv_iload hx hb dL_same_336 (lv_at hl 18 rfl) ?_
      refine lv_aload hx hb dL_same_338 (lv_at hl 5 rfl) ?_
      refine lv_iconst (v := (0 : Int32)) hx hb dL_same_340 (by decide) ?_
      obtain ⟨n178, f179, hm180, hv181, h⟩ := h
      refine k_iald hx hb hK hR hm180 hv181 dL_same_341 ?_
      obtain ⟨ha, hb2⟩ := h
      refine lv_icmp_ge (tgt := 411) hx hb dL_same_342 (by decide) (fun hc => ?_) (fun hc => ?_)
      · replace h := ha hc
        refine lv_aload hx hb dL_same_411 (lv_at hl 4 rfl) ?_
        refine lv_iload hx hb dL_same_413 (lv_at hl 13 rfl) ?_
        obtain ⟨n182, f183, hm184, hv185, h⟩ := h
        refine k_lald hx hb hK hR hm184 hv185 dL_same_415 ?_
        obtain ⟨hc189, hc190, h⟩ := h
        refine k_calli0 (va_runS (As := [.long (f183 (x13).toNatClampNeg)]) (rest := []) ⟨hx, hb, hml, hown, hts⟩ (c_L_bits l G _ _ _ (f183 (x13).toNatClampNeg) h) (va_cwS 1 hts gL_same_L_bits rfl rfl rfl (by decide +kernel) ⟨Nat.le_of_ble_eq_true rfl, Nat.le_of_ble_eq_true rfl⟩) (k_preS hR hS hA hE) rfl rfl hl.1 rfl (lv_room (Nat.le_of_ble_eq_true rfl)) dL_same_416 ⟨hc189, hc190⟩) hR hS hA (fun r186 M187 H locs h hR hS => ?_)
        refine lv_istore (lv' := [(18, .int r186), (0, .ref x0), (1, .int x1), (2, .ref x2), (3, .ref x3), (4, .ref x4), (5, .ref x5), (6, .ref x6), (7, .int x7), (8, .int x8), (9, .int x9), (10, .int x10), (11, .int x11), (12, .int x12), (13, .int x13), (14, .int x14), (15, .int x15), (16, .int x16), (17, .int x17)]) hx hb dL_same_419 hl (by decide) rfl (fun ls hl => ?_)
        refine lv_iload hx hb dL_same_421 (lv_at hl 0 rfl) ?_
        refine lv_iload hx hb dL_same_423 (lv_at hl 13 rfl) ?_
        obtain ⟨ha, hb2⟩ := h
        refine lv_icmp_ge (tgt := 436) hx hb dL_same_425 (by decide) (fun hc => ?_) (fun hc => ?_)
        · replace h := ha hc
          exact b436 _ hK25 _ _ _ _ _ _ _ _ _ _ _ _ _ _ _ _ _ _ _ _ _ _ _ _ _ h (lv_sub hl [1, 2, 3, 4, 5, 6, 7, 8, 9, 10, 11, 12, 13, 14, 15, 16, 17, 18, 0] rfl) hR hS
        · replace h := hb2 hc
          refine lv_iload hx hb dL_same_428 (lv_at hl 0 rfl) ?_
          refine lv_istore (lv' := [(12, .int r186), (18, .int r186), (0, .ref x0), (1, .int x1), (2, .ref x2), (3, .ref x3), (4, .ref x4), (5, .ref x5), (6, .ref x6), (7, .int x7), (8, .int x8), (9, .int x9), (10, .int x10), (11, .int x11), (13, .int x13), (14, .int x14), (15, .int x15), (16, .int x16), (17, .int x17)]) hx hb dL_same_430 hl (by decide) rfl (fun ls hl => ?_)
          refine lv_iload hx hb dL_same_432 (lv_at hl 14 rfl) ?_
          refine lv_istore (lv' := [(11, .int x13), (12, .int r186), (18, .int r186), (0, .ref x0), (1, .int x1), (2, .ref x2), (3, .ref x3), (4, .ref x4), (5, .ref x5), (6, .ref x6), (7, .int x7), (8, .int x8), (9, .int x9), (10, .int x10), (13, .int x13), (14, .int x14), (15, .int x15), (16, .int x16), (17, .int x17)]) hx hb dL_same_434 hl (by decide) rfl (fun ls hl => ?_)
          exact b436 _ hK25 _ _ _ _ _ _ _ _ _ _ _ _ _ _ _ _ _ _ _ _ _ _ _ _ _ h (lv_sub hl [3, 4, 5, 6, 7, 8, 9, 10, 11, 12, 13, 0, 1, 14, 15, 16, 17, 18, 2] rfl) hR hS
      · replace h := hb2 hc
        refine lv_aload_n hx hb dL_same_345 rfl (lv_at hl 0 rfl) ?_
        refine lv_iconst (v := (0 : Int32)) hx hb dL_same_346 (by decide) ?_
        refine lv_iload hx hb dL_same_347 (lv_at hl 13 rfl) ?_
        refine lv_iconst (v := (1 : Int32)) hx hb dL_same_349 (by decide) ?_
        refine lv_iload hx hb dL_same_350 (lv_at hl 18 rfl) ?_
        obtain ⟨fs273, hm272, h⟩ := h
        obtain ⟨hc274, hc275, h⟩ := h
        refine k_calli0 (va_runV (As := [.int (0 : Int32), .int x13, .int (1 : Int32), .int x18]) (rest := []) ⟨hx, hb, hml, hown, hts⟩ (c_X3_order l G _ _ _ x0 (0 : Int32) x13 (1 : Int32) x18 h) (cwV 4 hts gL_same_X3_order rfl rfl rfl (by decide +kernel) ⟨Nat.le_of_ble_eq_true rfl, Nat.le_of_ble_eq_true rfl⟩) (k_preV (q := (RX3, TX3, 8)) hm272 rfl hR hS hA hE) rfl rfl hl.1 rfl (lv_room (Nat.le_of_ble_eq_true rfl)) dL_same_352 ⟨hc274, hc275⟩) hR hS hA (fun r270 M271 H locs h hR hS => ?_)
        refine lv_iload hx hb dL_same_355 (lv_at hl 13 rfl) ?_
        refine lv_bipush (v := (8 : Int32)) hx hb dL_same_357 (by decide) ?_
        refine lv_iload hx hb dL_same_359 (lv_at hl 18 rfl) ?_
        refine lv_iadd hx hb dL_same_361 ?_
        refine lv_aload_n hx hb dL_same_362 rfl (lv_at hl 3 rfl) ?_
        obtain ⟨hc279, hc280, h⟩ := h
        refine k_calli0 (va_runS (As := [.int x13, .int ((8 : Int32) + x18), .ref x3]) (rest := [.int r270]) ⟨hx, hb, hml, hown, hts⟩ (c_L_order l G _ _ _ x13 ((8 : Int32) + x18) x3 h) (va_cwS 3 hts gL_same_L_order rfl rfl rfl (by decide +kernel) ⟨Nat.le_of_ble_eq_true rfl, Nat.le_of_ble_eq_true rfl⟩) (k_preS hR hS hA hE) rfl rfl hl.1 rfl (lv_room (Nat.le_of_ble_eq_true rfl)) dL_same_363 ⟨hc279, hc280⟩) hR hS hA (fun r276 M277 H locs h hR hS => ?_)
        obtain ⟨ha, hb2⟩ := h
        refine lv_icmp_ne (tgt := 403) hx hb dL_same_366 (by decide) (fun hc => ?_) (fun hc => ?_)
        · replace h := ha hc
          refine lv_iconst (v := (0 : Int32)) hx hb dL_same_403 (by decide) ?_
          obtain ⟨hwc, hws, h⟩ := h
          refine W.widen (k := mc) (n := ms) hwc hws ?_
          exact k_reti hx hb hr hlocks (by decide) hR hS h dL_same_404
        · replace h := hb2 hc
          refine lv_aload_n hx hb dL_same_369 rfl (lv_at hl 0 rfl) ?_
          refine lv_iconst (v := (1 : Int32)) hx hb dL_same_370 (by decide) ?_
          refine lv_iload hx hb dL_same_371 (lv_at hl 18 rfl) ?_
          refine lv_iconst (v := (0 : Int32)) hx hb dL_same_373 (by decide) ?_
          refine lv_iload hx hb dL_same_374 (lv_at hl 13 rfl) ?_
          obtain ⟨fs284, hm283, h⟩ := h
          obtain ⟨hc285, hc286, h⟩ := h
          refine k_calli0 (va_runV (As := [.int (1 : Int32), .int x18, .int (0 : Int32), .int x13]) (rest := []) ⟨hx, hb, hml, hown, hts⟩ (c_X3_more l G _ _ _ x0 (1 : Int32) x18 (0 : Int32) x13 h) (cwV 4 hts gL_same_X3_more rfl rfl rfl (by decide +kernel) ⟨Nat.le_of_ble_eq_true rfl, Nat.le_of_ble_eq_true rfl⟩) (k_preV (q := (RX3, TX3, 8)) hm283 rfl hR hS hA hE) rfl rfl hl.1 rfl (lv_room (Nat.le_of_ble_eq_true rfl)) dL_same_376 ⟨hc285, hc286⟩) hR hS hA (fun r281 M282 H locs h hR hS => ?_)
          refine lv_aload hx hb dL_same_379 (lv_at hl 4 rfl) ?_
          refine lv_bipush (v := (8 : Int32)) hx hb dL_same_381 (by decide) ?_
          refine lv_iload hx hb dL_same_383 (lv_at hl 18 rfl) ?_
          refine lv_iadd hx hb dL_same_385 ?_
          obtain ⟨n287, f288, hm289, hv290, h⟩ := h
          refine k_lald hx hb hK hR hm289 hv290 dL_same_386 ?_
          refine lv_aload hx hb dL_same_387 (lv_at hl 4 rfl) ?_
          refine lv_iload hx hb dL_same_389 (lv_at hl 13 rfl) ?_
          obtain ⟨n291, f292, hm293, hv294, h⟩ := h
          refine k_lald hx hb hK hR hm293 hv294 dL_same_391 ?_
          refine lv_ldc2 (v := (-1 : Int64)) hx hb hown hw1 dL_same_392 ?_
          refine lv_lxor hx hb dL_same_395 ?_
          refine lv_land hx hb dL_same_396 ?_
          obtain ⟨hc298, hc299, h⟩ := h
          refine k_calli0 (va_runS (As := [.long ((f288 (((8 : Int32) + x18)).toNatClampNeg) &&& ((f292 (x13).toNatClampNeg) ^^^ (-1 : Int64)))]) (rest := [.int r281]) ⟨hx, hb, hml, hown, hts⟩ (c_L_bits l G _ _ _ ((f288 (((8 : Int32) + x18)).toNatClampNeg) &&& ((f292 (x13).toNatClampNeg) ^^^ (-1 : Int64))) h) (va_cwS 1 hts gL_same_L_bits rfl rfl rfl (by decide +kernel) ⟨Nat.le_of_ble_eq_true rfl, Nat.le_of_ble_eq_true rfl⟩) (k_preS hR hS hA hE) rfl rfl hl.1 rfl (lv_room (Nat.le_of_ble_eq_true rfl)) dL_same_397 ⟨hc298, hc299⟩) hR hS hA (fun r295 M296 H locs h hR hS => ?_)
          obtain ⟨ha, hb2⟩ := h
          refine lv_icmp_eq (tgt := 405) hx hb dL_same_400 (by decide) (fun hc => ?_) (fun hc => ?_)
          · replace h := ha hc
            refine lv_iinc (v := (x18 + (1 : Int32))) (lv' := [(18, .int (x18 + (1 : Int32))), (0, .ref x0), (1, .int x1), (2, .ref x2), (3, .ref x3), (4, .ref x4), (5, .ref x5), (6, .ref x6), (7, .int x7), (8, .int x8), (9, .int x9), (10, .int x10), (11, .int x11), (12, .int x12), (13, .int x13), (14, .int x14), (15, .int x15), (16, .int x16), (17, .int x17)]) hx hb dL_same_405 hl (k := 18) rfl rfl (by decide) rfl (fun ls hl => ?_)
            refine lv_goto (tgt := 336) hx hb dL_same_408 (by decide) ?_
            exact ih _ _ _ _ _ _ _ _ _ _ _ _ _ _ _ _ _ _ _ _ _ _ _ _ _ h (lv_sub hl [1, 2, 3, 4, 5, 6, 7, 8, 9, 10, 11, 12, 13, 14, 15, 16, 17, 18, 0] rfl) hR hS
          · replace h := hb2 hc
            refine lv_iconst (v := (0 : Int32)) hx hb dL_same_403 (by decide) ?_
            obtain ⟨hwc, hws, h⟩ := h
            refine W.widen (k := mc) (n := ms) hwc hws ?_
            exact k_reti hx hb hr hlocks (by decide) hR hS h dL_same_404
  have b277 : ∀ (K25 : Nat → Int32 → Nat → Nat → Nat → Nat → Nat → Int32 → Int32 → Int32 → Int32 → Int32 → Int32 → Int32 → Nat → Nat → k_M → Prop) (hK25 : ∀ (x0 : Nat) (x1 : Int32) (x2 : Nat) (x3 : Nat) (x4 : Nat) (x5 : Nat) (x6 : Nat) (x7 : Int32) (x8 : Int32) (x9 : Int32) (x10 : Int32) (x11 : Int32) (x12 : Int32) (x13 : Int32) (kc : Nat) (ks : Nat) (M : k_M) (H : Heap) (locs : List Loc) (ls : Array Slot), K25 x0 x1 x2 x3 x4 x5 x6 x7 x8 x9 x10 x11 x12 x13 kc ks M → lv_has ls 20 [(0, .ref x0), (1, .int x1), (2, .ref x2), (3, .ref x3), (4, .ref x4), (5, .ref x5), (6, .ref x6), (7, .int x7), (8, .int x8), (9, .int x9), (10, .int x10), (11, .int x11), (12, .int x12), (13, .int x13)] → kR G M (kA M0 s.heap.size) H → va_S (kA M0 s.heap.size) s.heap H locs → W p l e (headSpec wsL_same ({ frames := 16, cells := mc, slots := ms, locals := 369 })).room s m ([.ref p0, .int p1, .ref p2, .ref p3, .ref p4, .ref p5, .ref p6] : List Value).toArray below meth c H locs kc ks (MQ below (va_Qi post (kB G M0 s.heap.size) (kA M0 s.heap.size)) ([.ref p0, .int p1, .ref p2, .ref p3, .ref p4, .ref p5, .ref p6] : List Value).toArray s mc ms (kA M0 s.heap.size)) (F0 m 25 ls [])) (K199 : Nat → Int32 → Nat → Nat → Nat → Nat → Nat → Int32 → Int32 → Int32 → Int32 → Int32 → Int32 → Int32 → Int32 → Int32 → Int32 → Int32 → Int32 → Nat → Nat → k_M → Prop) (hK199 : ∀ (x0 : Nat) (x1 : Int32) (x2 : Nat) (x3 : Nat) (x4 : Nat) (x5 : Nat) (x6 : Nat) (x7 : Int32) (x8 : Int32) (x9 : Int32) (x10 : Int32) (x11 : Int32) (x12 : Int32) (x13 : Int32) (x14 : Int32) (x15 : Int32) (x16 : Int32) (x17 : Int32) (x18 : Int32) (kc : Nat) (ks : Nat) (M : k_M) (H : Heap) (locs : List Loc) (ls : Array Slot), K199 x0 x1 x2 x3 x4 x5 x6 x7 x8 x9 x10 x11 x12 x13 x14 x15 x16 x17 x18 kc ks M → lv_has ls 20 [(0, .ref x0), (1, .int x1), (2, .ref x2), (3, .ref x3), (4, .ref x4), (5, .ref x5), (6, .ref x6), (7, .int x7), (8, .int x8), (9, .int x9), (10, .int x10), (11, .int x11), (12, .int x12), (13, .int x13), (14, .int x14), (15, .int x15), (16, .int x16), (17, .int x17), (18, .int x18)] → kR G M (kA M0 s.heap.size) H → va_S (kA M0 s.heap.size) s.heap H locs → W p l e (headSpec wsL_same ({ frames := 16, cells := mc, slots := ms, locals := 369 })).room s m ([.ref p0, .int p1, .ref p2, .ref p3, .ref p4, .ref p5, .ref p6] : List Value).toArray below meth c H locs kc ks (MQ below (va_Qi post (kB G M0 s.heap.size) (kA M0 s.heap.size)) ([.ref p0, .int p1, .ref p2, .ref p3, .ref p4, .ref p5, .ref p6] : List Value).toArray s mc ms (kA M0 s.heap.size)) (F0 m 199 ls [])), ∀ (x0 : Nat) (x1 : Int32) (x2 : Nat) (x3 : Nat) (x4 : Nat) (x5 : Nat) (x6 : Nat) (x7 : Int32) (x8 : Int32) (x9 : Int32) (x10 : Int32) (x11 : Int32) (x12 : Int32) (x13 : Int32) (x14 : Int32) (x15 : Int32) (x16 : Int32) (x18 : Int32) (x19 : Int32) (s0 : Int32) (kc : Nat) (ks : Nat) (M : k_M) (H : Heap) (locs : List Loc) (ls : Array Slot), wp_L_same_b277 G mc ms post K25 K199 x0 x1 x2 x3 x4 x5 x6 x7 x8 x9 x10 x11 x12 x13 x14 x15 x16 x18 x19 s0 kc ks M → lv_has ls 20 [(0, .ref x0), (1, .int x1), (2, .ref x2), (3, .ref x3), (4, .ref x4), (5, .ref x5), (6, .ref x6), (7, .int x7), (8, .int x8), (9, .int x9), (10, .int x10), (11, .int x11), (12, .int x12), (13, .int x13), (14, .int x14), (15, .int x15), (16, .int x16), (18, .int x18), (19, .int x19)] → kR G M (kA M0 s.heap.size) H → va_S (kA M0 s.heap.size) s.heap H locs → W p l e (headSpec wsL_same ({ frames := 16, cells := mc, slots := ms, locals := 369 })).room s m ([.ref p0, .int p1, .ref p2, .ref p3, .ref p4, .ref p5, .ref p6] : List Value).toArray below meth c H locs kc ks (MQ below (va_Qi post (kB G M0 s.heap.size) (kA M0 s.heap.size)) ([.ref p0, .int p1, .ref p2, .ref p3, .ref p4, .ref p5, .ref p6] : List Value).toArray s mc ms (kA M0 s.heap.size)) (F0 m 277 ls [.int s0]) := by
    intro K25 hK25 K199 hK199 x0 x1 x2 x3 x4 x5 x6 x7 x8 x9 x10 x11 x12 x13 x14 x15 x16 x18 x19 s0 kc ks M H locs ls h hl hR hS
    refine lv_istore (lv' := [(17, .int s0), (0, .ref x0), (1, .int x1), (2, .ref x2), (3, .ref x3), (4, .ref x4), (5, .ref x5), (6, .ref x6), (7, .int x7), (8, .int x8), (9, .int x9), (10, .int x10), (11, .int x11), (12, .int x12), (13, .int x13), (14, .int x14), (15, .int x15), (16, .int x16), (18, .int x18), (19, .int x19)]) hx hb dL_same_277 hl (by decide) rfl (fun ls hl => ?_)
    refine lv_aload_n hx hb dL_same_279 rfl (lv_at hl 1 rfl) ?_
    refine lv_iconst (v := (0 : Int32)) hx hb dL_same_280 (by decide) ?_
    refine lv_iload hx hb dL_same_281 (lv_at hl 14 rfl) ?_
    refine lv_iconst (v := (0 : Int32)) hx hb dL_same_283 (by decide) ?_
    refine lv_iload hx hb dL_same_284 (lv_at hl 18 rfl) ?_
    obtain ⟨fs312, hm311, h⟩ := h
    obtain ⟨hc313, hc314, h⟩ := h
    refine k_calli0 (va_runV (As := [.int (0 : Int32), .int x13, .int (0 : Int32), .int x18]) (rest := []) ⟨hx, hb, hml, hown, hts⟩ (c_X3_order l G _ _ _ x0 (0 : Int32) x13 (0 : Int32) x18 h) (cwV 4 hts gL_same_X3_order rfl rfl rfl (by decide +kernel) ⟨Nat.le_of_ble_eq_true rfl, Nat.le_of_ble_eq_true rfl⟩) (k_preV (q := (RX3, TX3, 8)) hm311 rfl hR hS hA hE) rfl rfl hl.1 rfl (lv_room (Nat.le_of_ble_eq_true rfl)) dL_same_286 ⟨hc313, hc314⟩) hR hS hA (fun r309 M310 H locs h hR hS => ?_)
    refine lv_iload hx hb dL_same_289 (lv_at hl 19 rfl) ?_
    obtain ⟨ha, hb2⟩ := h
    refine lv_icmp_ne (tgt := 325) hx hb dL_same_291 (by decide) (fun hc => ?_) (fun hc => ?_)
    · replace h := ha hc
      refine lv_iconst (v := (0 : Int32)) hx hb dL_same_325 (by decide) ?_
      obtain ⟨hwc, hws, h⟩ := h
      refine W.widen (k := mc) (n := ms) hwc hws ?_
      exact k_reti hx hb hr hlocks (by decide) hR hS h dL_same_326
    · replace h := hb2 hc
      refine lv_aload_n hx hb dL_same_294 rfl (lv_at hl 1 rfl) ?_
      refine lv_iconst (v := (0 : Int32)) hx hb dL_same_295 (by decide) ?_
      refine lv_iload hx hb dL_same_296 (lv_at hl 14 rfl) ?_
      refine lv_iconst (v := (0 : Int32)) hx hb dL_same_298 (by decide) ?_
      refine lv_iload hx hb dL_same_299 (lv_at hl 18 rfl) ?_
      obtain ⟨fs318, hm317, h⟩ := h
      obtain ⟨hc319, hc320, h⟩ := h
      refine k_calli0 (va_runV (As := [.int (0 : Int32), .int x13, .int (0 : Int32), .int x18]) (rest := []) ⟨hx, hb, hml, hown, hts⟩ (c_X3_more l G _ _ _ x0 (0 : Int32) x13 (0 : Int32) x18 h) (cwV 4 hts gL_same_X3_more rfl rfl rfl (by decide +kernel) ⟨Nat.le_of_ble_eq_true rfl, Nat.le_of_ble_eq_true rfl⟩) (k_preV (q := (RX3, TX3, 8)) hm317 rfl hR hS hA hE) rfl rfl hl.1 rfl (lv_room (Nat.le_of_ble_eq_true rfl)) dL_same_301 ⟨hc319, hc320⟩) hR hS hA (fun r315 M316 H locs h hR hS => ?_)
      refine lv_aload hx hb dL_same_304 (lv_at hl 5 rfl) ?_
      refine lv_iload hx hb dL_same_306 (lv_at hl 14 rfl) ?_
      obtain ⟨n321, f322, hm323, hv324, h⟩ := h
      refine k_lald hx hb hK hR hm323 hv324 dL_same_308 ?_
      refine lv_aload hx hb dL_same_309 (lv_at hl 5 rfl) ?_
      refine lv_iload hx hb dL_same_311 (lv_at hl 18 rfl) ?_
      obtain ⟨n325, f326, hm327, hv328, h⟩ := h
      refine k_lald hx hb hK hR hm327 hv328 dL_same_313 ?_
      refine lv_ldc2 (v := (-1 : Int64)) hx hb hown hw1 dL_same_314 ?_
      refine lv_lxor hx hb dL_same_317 ?_
      refine lv_land hx hb dL_same_318 ?_
      obtain ⟨hc332, hc333, h⟩ := h
      refine k_calli0 (va_runS (As := [.long ((f322 (x13).toNatClampNeg) &&& ((f326 (x18).toNatClampNeg) ^^^ (-1 : Int64)))]) (rest := [.int r315]) ⟨hx, hb, hml, hown, hts⟩ (c_L_bits l G _ _ _ ((f322 (x13).toNatClampNeg) &&& ((f326 (x18).toNatClampNeg) ^^^ (-1 : Int64))) h) (va_cwS 1 hts gL_same_L_bits rfl rfl rfl (by decide +kernel) ⟨Nat.le_of_ble_eq_true rfl, Nat.le_of_ble_eq_true rfl⟩) (k_preS hR hS hA hE) rfl rfl hl.1 rfl (lv_room (Nat.le_of_ble_eq_true rfl)) dL_same_319 ⟨hc332, hc333⟩) hR hS hA (fun r329 M330 H locs h hR hS => ?_)
      obtain ⟨ha, hb2⟩ := h
      refine lv_icmp_eq (tgt := 327) hx hb dL_same_322 (by decide) (fun hc => ?_) (fun hc => ?_)
      · replace h := ha hc
        refine lv_iinc (v := (x18 + (1 : Int32))) (lv' := [(18, .int (x18 + (1 : Int32))), (17, .int s0), (0, .ref x0), (1, .int x1), (2, .ref x2), (3, .ref x3), (4, .ref x4), (5, .ref x5), (6, .ref x6), (7, .int x7), (8, .int x8), (9, .int x9), (10, .int x10), (11, .int x11), (12, .int x12), (13, .int x13), (14, .int x14), (15, .int x15), (16, .int x16), (19, .int x19)]) hx hb dL_same_327 hl (k := 18) rfl rfl (by decide) rfl (fun ls hl => ?_)
        refine lv_goto (tgt := 199) hx hb dL_same_330 (by decide) ?_
        exact hK199 _ _ _ _ _ _ _ _ _ _ _ _ _ _ _ _ _ _ _ _ _ _ _ _ _ h (lv_sub hl [2, 3, 4, 5, 6, 7, 8, 9, 10, 11, 12, 13, 14, 15, 16, 17, 18, 1, 0] rfl) hR hS
      · replace h := hb2 hc
        refine lv_iconst (v := (0 : Int32)) hx hb dL_same_325 (by decide) ?_
        obtain ⟨hwc, hws, h⟩ := h
        refine W.widen (k := mc) (n := ms) hwc hws ?_
        exact k_reti hx hb hr hlocks (by decide) hR hS h dL_same_326
  have b276 : ∀ (K25 : Nat → Int32 → Nat → Nat → Nat → Nat → Nat → Int32 → Int32 → Int32 → Int32 → Int32 → Int32 → Int32 → Nat → Nat → k_M → Prop) (hK25 : ∀ (x0 : Nat) (x1 : Int32) (x2 : Nat) (x3 : Nat) (x4 : Nat) (x5 : Nat) (x6 : Nat) (x7 : Int32) (x8 : Int32) (x9 : Int32) (x10 : Int32) (x11 : Int32) (x12 : Int32) (x13 : Int32) (kc : Nat) (ks : Nat) (M : k_M) (H : Heap) (locs : List Loc) (ls : Array Slot), K25 x0 x1 x2 x3 x4 x5 x6 x7 x8 x9 x10 x11 x12 x13 kc ks M → lv_has ls 20 [(0, .ref x0), (1, .int x1), (2, .ref x2), (3, .ref x3), (4, .ref x4), (5, .ref x5), (6, .ref x6), (7, .int x7), (8, .int x8), (9, .int x9), (10, .int x10), (11, .int x11), (12, .int x12), (13, .int x13)] → kR G M (kA M0 s.heap.size) H → va_S (kA M0 s.heap.size) s.heap H locs → W p l e (headSpec wsL_same ({ frames := 16, cells := mc, slots := ms, locals := 369 })).room s m ([.ref p0, .int p1, .ref p2, .ref p3, .ref p4, .ref p5, .ref p6] : List Value).toArray below meth c H locs kc ks (MQ below (va_Qi post (kB G M0 s.heap.size) (kA M0 s.heap.size)) ([.ref p0, .int p1, .ref p2, .ref p3, .ref p4, .ref p5, .ref p6] : List Value).toArray s mc ms (kA M0 s.heap.size)) (F0 m 25 ls [])) (K199 : Nat → Int32 → Nat → Nat → Nat → Nat → Nat → Int32 → Int32 → Int32 → Int32 → Int32 → Int32 → Int32 → Int32 → Int32 → Int32 → Int32 → Int32 → Nat → Nat → k_M → Prop) (hK199 : ∀ (x0 : Nat) (x1 : Int32) (x2 : Nat) (x3 : Nat) (x4 : Nat) (x5 : Nat) (x6 : Nat) (x7 : Int32) (x8 : Int32) (x9 : Int32) (x10 : Int32) (x11 : Int32) (x12 : Int32) (x13 : Int32) (x14 : Int32) (x15 : Int32) (x16 : Int32) (x17 : Int32) (x18 : Int32) (kc : Nat) (ks : Nat) (M : k_M) (H : Heap) (locs : List Loc) (ls : Array Slot), K199 x0 x1 x2 x3 x4 x5 x6 x7 x8 x9 x10 x11 x12 x13 x14 x15 x16 x17 x18 kc ks M → lv_has ls 20 [(0, .ref x0), (1, .int x1), (2, .ref x2), (3, .ref x3), (4, .ref x4), (5, .ref x5), (6, .ref x6), (7, .int x7), (8, .int x8), (9, .int x9), (10, .int x10), (11, .int x11), (12, .int x12), (13, .int x13), (14, .int x14), (15, .int x15), (16, .int x16), (17, .int x17), (18, .int x18)] → kR G M (kA M0 s.heap.size) H → va_S (kA M0 s.heap.size) s.heap H locs → W p l e (headSpec wsL_same ({ frames := 16, cells := mc, slots := ms, locals := 369 })).room s m ([.ref p0, .int p1, .ref p2, .ref p3, .ref p4, .ref p5, .ref p6] : List Value).toArray below meth c H locs kc ks (MQ below (va_Qi post (kB G M0 s.heap.size) (kA M0 s.heap.size)) ([.ref p0, .int p1, .ref p2, .ref p3, .ref p4, .ref p5, .ref p6] : List Value).toArray s mc ms (kA M0 s.heap.size)) (F0 m 199 ls [])), ∀ (x0 : Nat) (x1 : Int32) (x2 : Nat) (x3 : Nat) (x4 : Nat) (x5 : Nat) (x6 : Nat) (x7 : Int32) (x8 : Int32) (x9 : Int32) (x10 : Int32) (x11 : Int32) (x12 : Int32) (x13 : Int32) (x14 : Int32) (x15 : Int32) (x16 : Int32) (x18 : Int32) (x19 : Int32) (kc : Nat) (ks : Nat) (M : k_M) (H : Heap) (locs : List Loc) (ls : Array Slot), wp_L_same_b276 G mc ms post K25 K199 x0 x1 x2 x3 x4 x5 x6 x7 x8 x9 x10 x11 x12 x13 x14 x15 x16 x18 x19 kc ks M → lv_has ls 20 [(0, .ref x0), (1, .int x1), (2, .ref x2), (3, .ref x3), (4, .ref x4), (5, .ref x5), (6, .ref x6), (7, .int x7), (8, .int x8), (9, .int x9), (10, .int x10), (11, .int x11), (12, .int x12), (13, .int x13), (14, .int x14), (15, .int x15), (16, .int x16), (18, .int x18), (19, .int x19)] → kR G M (kA M0 s.heap.size) H → va_S (kA M0 s.heap.size) s.heap H locs → W p l e (headSpec wsL_same ({ frames := 16, cells := mc, slots := ms, locals := 369 })).room s m ([.ref p0, .int p1, .ref p2, .ref p3, .ref p4, .ref p5, .ref p6] : List Value).toArray below meth c H locs kc ks (MQ below (va_Qi post (kB G M0 s.heap.size) (kA M0 s.heap.size)) ([.ref p0, .int p1, .ref p2, .ref p3, .ref p4, .ref p5, .ref p6] : List Value).toArray s mc ms (kA M0 s.heap.size)) (F0 m 276 ls []) := by
    intro K25 hK25 K199 hK199 x0 x1 x2 x3 x4 x5 x6 x7 x8 x9 x10 x11 x12 x13 x14 x15 x16 x18 x19 kc ks M H locs ls h hl hR hS
    refine lv_iconst (v := (0 : Int32)) hx hb dL_same_276 (by decide) ?_
    exact b277 _ hK25 _ hK199 _ _ _ _ _ _ _ _ _ _ _ _ _ _ _ _ _ _ _ _ _ _ _ _ _ _ h (lv_sub hl [0, 1, 2, 3, 4, 5, 6, 7, 8, 9, 10, 11, 12, 13, 14, 15, 16, 17, 18] rfl) hR hS
  have b272 : ∀ (K25 : Nat → Int32 → Nat → Nat → Nat → Nat → Nat → Int32 → Int32 → Int32 → Int32 → Int32 → Int32 → Int32 → Nat → Nat → k_M → Prop) (hK25 : ∀ (x0 : Nat) (x1 : Int32) (x2 : Nat) (x3 : Nat) (x4 : Nat) (x5 : Nat) (x6 : Nat) (x7 : Int32) (x8 : Int32) (x9 : Int32) (x10 : Int32) (x11 : Int32) (x12 : Int32) (x13 : Int32) (kc : Nat) (ks : Nat) (M : k_M) (H : Heap) (locs : List Loc) (ls : Array Slot), K25 x0 x1 x2 x3 x4 x5 x6 x7 x8 x9 x10 x11 x12 x13 kc ks M → lv_has ls 20 [(0, .ref x0), (1, .int x1), (2, .ref x2), (3, .ref x3), (4, .ref x4), (5, .ref x5), (6, .ref x6), (7, .int x7), (8, .int x8), (9, .int x9), (10, .int x10), (11, .int x11), (12, .int x12), (13, .int x13)] → kR G M (kA M0 s.heap.size) H → va_S (kA M0 s.heap.size) s.heap H locs → W p l e (headSpec wsL_same ({ frames := 16, cells := mc, slots := ms, locals := 369 })).room s m ([.ref p0, .int p1, .ref p2, .ref p3, .ref p4, .ref p5, .ref p6] : List Value).toArray below meth c H locs kc ks (MQ below (va_Qi post (kB G M0 s.heap.size) (kA M0 s.heap.size)) ([.ref p0, .int p1, .ref p2, .ref p3, .ref p4, .ref p5, .ref p6] : List Value).toArray s mc ms (kA M0 s.heap.size)) (F0 m 25 ls [])) (K199 : Nat → Int32 → Nat → Nat → Nat → Nat → Nat → Int32 → Int32 → Int32 → Int32 → Int32 → Int32 → Int32 → Int32 → Int32 → Int32 → Int32 → Int32 → Nat → Nat → k_M → Prop) (hK199 : ∀ (x0 : Nat) (x1 : Int32) (x2 : Nat) (x3 : Nat) (x4 : Nat) (x5 : Nat) (x6 : Nat) (x7 : Int32) (x8 : Int32) (x9 : Int32) (x10 : Int32) (x11 : Int32) (x12 : Int32) (x13 : Int32) (x14 : Int32) (x15 : Int32) (x16 : Int32) (x17 : Int32) (x18 : Int32) (kc : Nat) (ks : Nat) (M : k_M) (H : Heap) (locs : List Loc) (ls : Array Slot), K199 x0 x1 x2 x3 x4 x5 x6 x7 x8 x9 x10 x11 x12 x13 x14 x15 x16 x17 x18 kc ks M → lv_has ls 20 [(0, .ref x0), (1, .int x1), (2, .ref x2), (3, .ref x3), (4, .ref x4), (5, .ref x5), (6, .ref x6), (7, .int x7), (8, .int x8), (9, .int x9), (10, .int x10), (11, .int x11), (12, .int x12), (13, .int x13), (14, .int x14), (15, .int x15), (16, .int x16), (17, .int x17), (18, .int x18)] → kR G M (kA M0 s.heap.size) H → va_S (kA M0 s.heap.size) s.heap H locs → W p l e (headSpec wsL_same ({ frames := 16, cells := mc, slots := ms, locals := 369 })).room s m ([.ref p0, .int p1, .ref p2, .ref p3, .ref p4, .ref p5, .ref p6] : List Value).toArray below meth c H locs kc ks (MQ below (va_Qi post (kB G M0 s.heap.size) (kA M0 s.heap.size)) ([.ref p0, .int p1, .ref p2, .ref p3, .ref p4, .ref p5, .ref p6] : List Value).toArray s mc ms (kA M0 s.heap.size)) (F0 m 199 ls [])), ∀ (x0 : Nat) (x1 : Int32) (x2 : Nat) (x3 : Nat) (x4 : Nat) (x5 : Nat) (x6 : Nat) (x7 : Int32) (x8 : Int32) (x9 : Int32) (x10 : Int32) (x11 : Int32) (x12 : Int32) (x13 : Int32) (x14 : Int32) (x15 : Int32) (x16 : Int32) (x18 : Int32) (x19 : Int32) (kc : Nat) (ks : Nat) (M : k_M) (H : Heap) (locs : List Loc) (ls : Array Slot), wp_L_same_b272 G mc ms post K25 K199 x0 x1 x2 x3 x4 x5 x6 x7 x8 x9 x10 x11 x12 x13 x14 x15 x16 x18 x19 kc ks M → lv_has ls 20 [(0, .ref x0), (1, .int x1), (2, .ref x2), (3, .ref x3), (4, .ref x4), (5, .ref x5), (6, .ref x6), (7, .int x7), (8, .int x8), (9, .int x9), (10, .int x10), (11, .int x11), (12, .int x12), (13, .int x13), (14, .int x14), (15, .int x15), (16, .int x16), (18, .int x18), (19, .int x19)] → kR G M (kA M0 s.heap.size) H → va_S (kA M0 s.heap.size) s.heap H locs → W p l e (headSpec wsL_same ({ frames := 16, cells := mc, slots := ms, locals := 369 })).room s m ([.ref p0, .int p1, .ref p2, .ref p3, .ref p4, .ref p5, .ref p6] : List Value).toArray below meth c H locs kc ks (MQ below (va_Qi post (kB G M0 s.heap.size) (kA M0 s.heap.size)) ([.ref p0, .int p1, .ref p2, .ref p3, .ref p4, .ref p5, .ref p6] : List Value).toArray s mc ms (kA M0 s.heap.size)) (F0 m 272 ls []) := by
    intro K25 hK25 K199 hK199 x0 x1 x2 x3 x4 x5 x6 x7 x8 x9 x10 x11 x12 x13 x14 x15 x16 x18 x19 kc ks M H locs ls h hl hR hS
    refine lv_iconst (v := (1 : Int32)) hx hb dL_same_272 (by decide) ?_
    refine lv_goto (tgt := 277) hx hb dL_same_273 (by decide) ?_
    exact b277 _ hK25 _ hK199 _ _ _ _ _ _ _ _ _ _ _ _ _ _ _ _ _ _ _ _ _ _ _ _ _ _ h (lv_sub hl [0, 1, 2, 3, 4, 5, 6, 7, 8, 9, 10, 11, 12, 13, 14, 15, 16, 17, 18] rfl) hR hS
  have b253 : ∀ (K25 : Nat → Int32 → Nat → Nat → Nat → Nat → Nat → Int32 → Int32 → Int32 → Int32 → Int32 → Int32 → Int32 → Nat → Nat → k_M → Prop) (hK25 : ∀ (x0 : Nat) (x1 : Int32) (x2 : Nat) (x3 : Nat) (x4 : Nat) (x5 : Nat) (x6 : Nat) (x7 : Int32) (x8 : Int32) (x9 : Int32) (x10 : Int32) (x11 : Int32) (x12 : Int32) (x13 : Int32) (kc : Nat) (ks : Nat) (M : k_M) (H : Heap) (locs : List Loc) (ls : Array Slot), K25 x0 x1 x2 x3 x4 x5 x6 x7 x8 x9 x10 x11 x12 x13 kc ks M → lv_has ls 20 [(0, .ref x0), (1, .int x1), (2, .ref x2), (3, .ref x3), (4, .ref x4), (5, .ref x5), (6, .ref x6), (7, .int x7), (8, .int x8), (9, .int x9), (10, .int x10), (11, .int x11), (12, .int x12), (13, .int x13)] → kR G M (kA M0 s.heap.size) H → va_S (kA M0 s.heap.size) s.heap H locs → W p l e (headSpec wsL_same ({ frames := 16, cells := mc, slots := ms, locals := 369 })).room s m ([.ref p0, .int p1, .ref p2, .ref p3, .ref p4, .ref p5, .ref p6] : List Value).toArray below meth c H locs kc ks (MQ below (va_Qi post (kB G M0 s.heap.size) (kA M0 s.heap.size)) ([.ref p0, .int p1, .ref p2, .ref p3, .ref p4, .ref p5, .ref p6] : List Value).toArray s mc ms (kA M0 s.heap.size)) (F0 m 25 ls [])) (K199 : Nat → Int32 → Nat → Nat → Nat → Nat → Nat → Int32 → Int32 → Int32 → Int32 → Int32 → Int32 → Int32 → Int32 → Int32 → Int32 → Int32 → Int32 → Nat → Nat → k_M → Prop) (hK199 : ∀ (x0 : Nat) (x1 : Int32) (x2 : Nat) (x3 : Nat) (x4 : Nat) (x5 : Nat) (x6 : Nat) (x7 : Int32) (x8 : Int32) (x9 : Int32) (x10 : Int32) (x11 : Int32) (x12 : Int32) (x13 : Int32) (x14 : Int32) (x15 : Int32) (x16 : Int32) (x17 : Int32) (x18 : Int32) (kc : Nat) (ks : Nat) (M : k_M) (H : Heap) (locs : List Loc) (ls : Array Slot), K199 x0 x1 x2 x3 x4 x5 x6 x7 x8 x9 x10 x11 x12 x13 x14 x15 x16 x17 x18 kc ks M → lv_has ls 20 [(0, .ref x0), (1, .int x1), (2, .ref x2), (3, .ref x3), (4, .ref x4), (5, .ref x5), (6, .ref x6), (7, .int x7), (8, .int x8), (9, .int x9), (10, .int x10), (11, .int x11), (12, .int x12), (13, .int x13), (14, .int x14), (15, .int x15), (16, .int x16), (17, .int x17), (18, .int x18)] → kR G M (kA M0 s.heap.size) H → va_S (kA M0 s.heap.size) s.heap H locs → W p l e (headSpec wsL_same ({ frames := 16, cells := mc, slots := ms, locals := 369 })).room s m ([.ref p0, .int p1, .ref p2, .ref p3, .ref p4, .ref p5, .ref p6] : List Value).toArray below meth c H locs kc ks (MQ below (va_Qi post (kB G M0 s.heap.size) (kA M0 s.heap.size)) ([.ref p0, .int p1, .ref p2, .ref p3, .ref p4, .ref p5, .ref p6] : List Value).toArray s mc ms (kA M0 s.heap.size)) (F0 m 199 ls [])), ∀ (x0 : Nat) (x1 : Int32) (x2 : Nat) (x3 : Nat) (x4 : Nat) (x5 : Nat) (x6 : Nat) (x7 : Int32) (x9 : Int32) (x10 : Int32) (x11 : Int32) (x12 : Int32) (x13 : Int32) (x14 : Int32) (x15 : Int32) (x16 : Int32) (x17 : Int32) (x18 : Int32) (x19 : Int32) (s0 : Int32) (s1 : Int32) (kc : Nat) (ks : Nat) (M : k_M) (H : Heap) (locs : List Loc) (ls : Array Slot), wp_L_same_b253 G mc ms post K25 K199 x0 x1 x2 x3 x4 x5 x6 x7 x9 x10 x11 x12 x13 x14 x15 x16 x17 x18 x19 s0 s1 kc ks M → lv_has ls 20 [(0, .ref x0), (1, .int x1), (2, .ref x2), (3, .ref x3), (4, .ref x4), (5, .ref x5), (6, .ref x6), (7, .int x7), (9, .int x9), (10, .int x10), (11, .int x11), (12, .int x12), (13, .int x13), (14, .int x14), (15, .int x15), (16, .int x16), (17, .int x17), (18, .int x18), (19, .int x19)] → kR G M (kA M0 s.heap.size) H → va_S (kA M0 s.heap.size) s.heap H locs → W p l e (headSpec wsL_same ({ frames := 16, cells := mc, slots := ms, locals := 369 })).room s m ([.ref p0, .int p1, .ref p2, .ref p3, .ref p4, .ref p5, .ref p6] : List Value).toArray below meth c H locs kc ks (MQ below (va_Qi post (kB G M0 s.heap.size) (kA M0 s.heap.size)) ([.ref p0, .int p1, .ref p2, .ref p3, .ref p4, .ref p5, .ref p6] : List Value).toArray s mc ms (kA M0 s.heap.size)) (F0 m 253 ls [.int s0, .int s1]) := by
    intro K25 hK25 K199 hK199 x0 x1 x2 x3 x4 x5 x6 x7 x9 x10 x11 x12 x13 x14 x15 x16 x17 x18 x19 s0 s1 kc ks M H locs ls h hl hR hS
    refine lv_iadd hx hb dL_same_253 ?_
    refine lv_istore (lv' := [(8, .int (s1 + s0)), (0, .ref x0), (1, .int x1), (2, .ref x2), (3, .ref x3), (4, .ref x4), (5, .ref x5), (6, .ref x6), (7, .int x7), (9, .int x9), (10, .int x10), (11, .int x11), (12, .int x12), (13, .int x13), (14, .int x14), (15, .int x15), (16, .int x16), (17, .int x17), (18, .int x18), (19, .int x19)]) hx hb dL_same_254 hl (by decide) rfl (fun ls hl => ?_)
    refine lv_iload hx hb dL_same_256 (lv_at hl 17 rfl) ?_
    obtain ⟨ha, hb2⟩ := h
    refine lv_if_eq (tgt := 276) hx hb dL_same_258 (by decide) (fun hc => ?_) (fun hc => ?_)
    · replace h := ha hc
      exact b276 _ hK25 _ hK199 _ _ _ _ _ _ _ _ _ _ _ _ _ _ _ _ _ _ _ _ _ _ _ _ _ h (lv_sub hl [1, 2, 3, 4, 5, 6, 7, 8, 0, 9, 10, 11, 12, 13, 14, 15, 16, 18, 19] rfl) hR hS
    · replace h := hb2 hc
      refine lv_iload hx hb dL_same_261 (lv_at hl 19 rfl) ?_
      obtain ⟨ha, hb2⟩ := h
      refine lv_if_eq (tgt := 272) hx hb dL_same_263 (by decide) (fun hc => ?_) (fun hc => ?_)
      · replace h := ha hc
        exact b272 _ hK25 _ hK199 _ _ _ _ _ _ _ _ _ _ _ _ _ _ _ _ _ _ _ _ _ _ _ _ _ h (lv_sub hl [1, 2, 3, 4, 5, 6, 7, 8, 0, 9, 10, 11, 12, 13, 14, 15, 16, 18, 19] rfl) hR hS
      · replace h := hb2 hc
        refine lv_iload hx hb dL_same_266 (lv_at hl 19 rfl) ?_
        refine lv_iconst (v := (2 : Int32)) hx hb dL_same_268 (by decide) ?_
        obtain ⟨ha, hb2⟩ := h
        refine lv_icmp_ne (tgt := 276) hx hb dL_same_269 (by decide) (fun hc => ?_) (fun hc => ?_)
        · replace h := ha hc
          exact b276 _ hK25 _ hK199 _ _ _ _ _ _ _ _ _ _ _ _ _ _ _ _ _ _ _ _ _ _ _ _ _ h (lv_sub hl [1, 2, 3, 4, 5, 6, 7, 8, 0, 9, 10, 11, 12, 13, 14, 15, 16, 18, 19] rfl) hR hS
        · replace h := hb2 hc
          exact b272 _ hK25 _ hK199 _ _ _ _ _ _ _ _ _ _ _ _ _ _ _ _ _ _ _ _ _ _ _ _ _ h (lv_sub hl [1, 2, 3, 4, 5, 6, 7, 8, 0, 9, 10, 11, 12, 13, 14, 15, 16, 18, 19] rfl) hR hS
  have b252 : ∀ (K25 : Nat → Int32 → Nat → Nat → Nat → Nat → Nat → Int32 → Int32 → Int32 → Int32 → Int32 → Int32 → Int32 → Nat → Nat → k_M → Prop) (hK25 : ∀ (x0 : Nat) (x1 : Int32) (x2 : Nat) (x3 : Nat) (x4 : Nat) (x5 : Nat) (x6 : Nat) (x7 : Int32) (x8 : Int32) (x9 : Int32) (x10 : Int32) (x11 : Int32) (x12 : Int32) (x13 : Int32) (kc : Nat) (ks : Nat) (M : k_M) (H : Heap) (locs : List Loc) (ls : Array Slot), K25 x0 x1 x2 x3 x4 x5 x6 x7 x8 x9 x10 x11 x12 x13 kc ks M → lv_has ls 20 [(0, .ref x0), (1, .int x1), (2, .ref x2), (3, .ref x3), (4, .ref x4), (5, .ref x5), (6, .ref x6), (7, .int x7), (8, .int x8), (9, .int x9), (10, .int x10), (11, .int x11), (12, .int x12), (13, .int x13)] → kR G M (kA M0 s.heap.size) H → va_S (kA M0 s.heap.size) s.heap H locs → W p l e (headSpec wsL_same ({ frames := 16, cells := mc, slots := ms, locals := 369 })).room s m ([.ref p0, .int p1, .ref p2, .ref p3, .ref p4, .ref p5, .ref p6] : List Value).toArray below meth c H locs kc ks (MQ below (va_Qi post (kB G M0 s.heap.size) (kA M0 s.heap.size)) ([.ref p0, .int p1, .ref p2, .ref p3, .ref p4, .ref p5, .ref p6] : List Value).toArray s mc ms (kA M0 s.heap.size)) (F0 m 25 ls [])) (K199 : Nat → Int32 → Nat → Nat → Nat → Nat → Nat → Int32 → Int32 → Int32 → Int32 → Int32 → Int32 → Int32 → Int32 → Int32 → Int32 → Int32 → Int32 → Nat → Nat → k_M → Prop) (hK199 : ∀ (x0 : Nat) (x1 : Int32) (x2 : Nat) (x3 : Nat) (x4 : Nat) (x5 : Nat) (x6 : Nat) (x7 : Int32) (x8 : Int32) (x9 : Int32) (x10 : Int32) (x11 : Int32) (x12 : Int32) (x13 : Int32) (x14 : Int32) (x15 : Int32) (x16 : Int32) (x17 : Int32) (x18 : Int32) (kc : Nat) (ks : Nat) (M : k_M) (H : Heap) (locs : List Loc) (ls : Array Slot), K199 x0 x1 x2 x3 x4 x5 x6 x7 x8 x9 x10 x11 x12 x13 x14 x15 x16 x17 x18 kc ks M → lv_has ls 20 [(0, .ref x0), (1, .int x1), (2, .ref x2), (3, .ref x3), (4, .ref x4), (5, .ref x5), (6, .ref x6), (7, .int x7), (8, .int x8), (9, .int x9), (10, .int x10), (11, .int x11), (12, .int x12), (13, .int x13), (14, .int x14), (15, .int x15), (16, .int x16), (17, .int x17), (18, .int x18)] → kR G M (kA M0 s.heap.size) H → va_S (kA M0 s.heap.size) s.heap H locs → W p l e (headSpec wsL_same ({ frames := 16, cells := mc, slots := ms, locals := 369 })).room s m ([.ref p0, .int p1, .ref p2, .ref p3, .ref p4, .ref p5, .ref p6] : List Value).toArray below meth c H locs kc ks (MQ below (va_Qi post (kB G M0 s.heap.size) (kA M0 s.heap.size)) ([.ref p0, .int p1, .ref p2, .ref p3, .ref p4, .ref p5, .ref p6] : List Value).toArray s mc ms (kA M0 s.heap.size)) (F0 m 199 ls [])), ∀ (x0 : Nat) (x1 : Int32) (x2 : Nat) (x3 : Nat) (x4 : Nat) (x5 : Nat) (x6 : Nat) (x7 : Int32) (x9 : Int32) (x10 : Int32) (x11 : Int32) (x12 : Int32) (x13 : Int32) (x14 : Int32) (x15 : Int32) (x16 : Int32) (x17 : Int32) (x18 : Int32) (x19 : Int32) (s0 : Int32) (kc : Nat) (ks : Nat) (M : k_M) (H : Heap) (locs : List Loc) (ls : Array Slot), wp_L_same_b252 G mc ms post K25 K199 x0 x1 x2 x3 x4 x5 x6 x7 x9 x10 x11 x12 x13 x14 x15 x16 x17 x18 x19 s0 kc ks M → lv_has ls 20 [(0, .ref x0), (1, .int x1), (2, .ref x2), (3, .ref x3), (4, .ref x4), (5, .ref x5), (6, .ref x6), (7, .int x7), (9, .int x9), (10, .int x10), (11, .int x11), (12, .int x12), (13, .int x13), (14, .int x14), (15, .int x15), (16, .int x16), (17, .int x17), (18, .int x18), (19, .int x19)] → kR G M (kA M0 s.heap.size) H → va_S (kA M0 s.heap.size) s.heap H locs → W p l e (headSpec wsL_same ({ frames := 16, cells := mc, slots := ms, locals := 369 })).room s m ([.ref p0, .int p1, .ref p2, .ref p3, .ref p4, .ref p5, .ref p6] : List Value).toArray below meth c H locs kc ks (MQ below (va_Qi post (kB G M0 s.heap.size) (kA M0 s.heap.size)) ([.ref p0, .int p1, .ref p2, .ref p3, .ref p4, .ref p5, .ref p6] : List Value).toArray s mc ms (kA M0 s.heap.size)) (F0 m 252 ls [.int s0]) := by
    intro K25 hK25 K199 hK199 x0 x1 x2 x3 x4 x5 x6 x7 x9 x10 x11 x12 x13 x14 x15 x16 x17 x18 x19 s0 kc ks M H locs ls h hl hR hS
    refine lv_iconst (v := (0 : Int32)) hx hb dL_same_252 (by decide) ?_
    exact b253 _ hK25 _ hK199 _ _ _ _ _ _ _ _ _ _ _ _ _ _ _ _ _ _ _ _ _ _ _ _ _ _ _ h (lv_sub hl [0, 1, 2, 3, 4, 5, 6, 7, 8, 9, 10, 11, 12, 13, 14, 15, 16, 17, 18] rfl) hR hS
  have L199 : ∀ (K25 : Nat → Int32 → Nat → Nat → Nat → Nat → Nat → Int32 → Int32 → Int32 → Int32 → Int32 → Int32 → Int32 → Nat → Nat → k_M → Prop) (hK25 : ∀ (x0 : Nat) (x1 : Int32) (x2 : Nat) (x3 : Nat) (x4 : Nat) (x5 : Nat) (x6 : Nat) (x7 : Int32) (x8 : Int32) (x9 : Int32) (x10 : Int32) (x11 : Int32) (x12 : Int32) (x13 : Int32) (kc : Nat) (ks : Nat) (M : k_M) (H : Heap) (locs : List Loc) (ls : Array Slot), K25 x0 x1 x2 x3 x4 x5 x6 x7 x8 x9 x10 x11 x12 x13 kc ks M → lv_has ls 20 [(0, .ref x0), (1, .int x1), (2, .ref x2), (3, .ref x3), (4, .ref x4), (5, .ref x5), (6, .ref x6), (7, .int x7), (8, .int x8), (9, .int x9), (10, .int x10), (11, .int x11), (12, .int x12), (13, .int x13)] → kR G M (kA M0 s.heap.size) H → va_S (kA M0 s.heap.size) s.heap H locs → W p l e (headSpec wsL_same ({ frames := 16, cells := mc, slots := ms, locals := 369 })).room s m ([.ref p0, .int p1, .ref p2, .ref p3, .ref p4, .ref p5, .ref p6] : List Value).toArray below meth c H locs kc ks (MQ below (va_Qi post (kB G M0 s.heap.size) (kA M0 s.heap.size)) ([.ref p0, .int p1, .ref p2, .ref p3, .ref p4, .ref p5, .ref p6] : List Value).toArray s mc ms (kA M0 s.heap.size)) (F0 m 25 ls [])) (n : Nat), ∀ (x0 : Nat) (x1 : Int32) (x2 : Nat) (x3 : Nat) (x4 : Nat) (x5 : Nat) (x6 : Nat) (x7 : Int32) (x8 : Int32) (x9 : Int32) (x10 : Int32) (x11 : Int32) (x12 : Int32) (x13 : Int32) (x14 : Int32) (x15 : Int32) (x16 : Int32) (x17 : Int32) (x18 : Int32) (kc : Nat) (ks : Nat) (M : k_M) (H : Heap) (locs : List Loc) (ls : Array Slot), wp_L_same_L199 G mc ms post K25 n x0 x1 x2 x3 x4 x5 x6 x7 x8 x9 x10 x11 x12 x13 x14 x15 x16 x17 x18 kc ks M → lv_has ls 20 [(0, .ref x0), (1, .int x1), (2, .ref x2), (3, .ref x3), (4, .ref x4), (5, .ref x5), (6, .ref x6), (7, .int x7), (8, .int x8), (9, .int x9), (10, .int x10), (11, .int x11), (12, .int x12), (13, .int x13), (14, .int x14), (15, .int x15), (16, .int x16), (17, .int x17), (18, .int x18)] → kR G M (kA M0 s.heap.size) H → va_S (kA M0 s.heap.size) s.heap H locs → W p l e (headSpec wsL_same ({ frames := 16, cells := mc, slots := ms, locals := 369 })).room s m ([.ref p0, .int p1, .ref p2, .ref p3, .ref p4, .ref p5, .ref p6] : List Value).toArray below meth c H locs kc ks (MQ below (va_Qi post (kB G M0 s.heap.size) (kA M0 s.heap.size)) ([.ref p0, .int p1, .ref p2, .ref p3, .ref p4, .ref p5, .ref p6] : List Value).toArray s mc ms (kA M0 s.heap.size)) (F0 m 199 ls []) := by
    intro K25 hK25 n
    induction n with
    | zero =>
      intro  x0 x1 x2 x3 x4 x5 x6 x7 x8 x9 x10 x11 x12 x13 x14 x15 x16 x17 x18 kc ks M H locs ls h
      exact False.elim h
    | succ n ih =>
      intro  x0 x1 x2 x3 x4 x5 x6 x7 x8 x9 x10 x11 x12 x13 x14 x15 x16 x17 x18 kc ks M H locs ls h hl hR hS
      refine lv_iload hx hb dL_same_199 (lv_at hl 18 rfl) ?_
      refine lv_bipush (v := (8 : Int32)) hx hb dL_same_201 (by decide) ?_
      obtain ⟨ha, hb2⟩ := h
      refine lv_icmp_ge (tgt := 333) hx hb dL_same_203 (by decide) (fun hc => ?_) (fun hc => ?_)
      · replace h := ha hc
        refine lv_iconst (v := (0 : Int32)) hx hb dL_same_333 (by decide) ?_
        refine lv_istore (lv' := [(18, .int (0 : Int32)), (0, .ref x0), (1, .int x1), (2, .ref x2), (3, .ref x3), (4, .ref x4), (5, .ref x5), (6, .ref x6), (7, .int x7), (8, .int x8), (9, .int x9), (10, .int x10), (11, .int x11), (12, .int x12), (13, .int x13), (14, .int x14), (15, .int x15), (16, .int x16), (17, .int x17)]) hx hb dL_same_334 hl (by decide) rfl (fun ls hl => ?_)
        obtain ⟨k177, h⟩ := h
        exact L336 _ hK25 k177 _ _ _ _ _ _ _ _ _ _ _ _ _ _ _ _ _ _ _ _ _ _ _ _ _ h (lv_sub hl [1, 2, 3, 4, 5, 6, 7, 8, 9, 10, 11, 12, 13, 14, 15, 16, 17, 18, 0] rfl) hR hS
      · replace h := hb2 hc
        refine lv_aload_n hx hb dL_same_206 rfl (lv_at hl 2 rfl) ?_
        refine lv_iload hx hb dL_same_207 (lv_at hl 18 rfl) ?_
        obtain ⟨n300, f301, hm302, hv303, h⟩ := h
        refine k_iald hx hb hK hR hm302 hv303 dL_same_209 ?_
        obtain ⟨ha, hb2⟩ := h
        refine lv_if_eq (tgt := 327) hx hb dL_same_210 (by decide) (fun hc => ?_) (fun hc => ?_)
        · replace h := ha hc
          refine lv_iinc (v := (x18 + (1 : Int32))) (lv' := [(18, .int (x18 + (1 : Int32))), (0, .ref x0), (1, .int x1), (2, .ref x2), (3, .ref x3), (4, .ref x4), (5, .ref x5), (6, .ref x6), (7, .int x7), (8, .int x8), (9, .int x9), (10, .int x10), (11, .int x11), (12, .int x12), (13, .int x13), (14, .int x14), (15, .int x15), (16, .int x16), (17, .int x17)]) hx hb dL_same_327 hl (k := 18) rfl rfl (by decide) rfl (fun ls hl => ?_)
          refine lv_goto (tgt := 199) hx hb dL_same_330 (by decide) ?_
          exact ih _ _ _ _ _ _ _ _ _ _ _ _ _ _ _ _ _ _ _ _ _ _ _ _ _ h (lv_sub hl [1, 2, 3, 4, 5, 6, 7, 8, 9, 10, 11, 12, 13, 14, 15, 16, 17, 18, 0] rfl) hR hS
        · replace h := hb2 hc
          refine lv_iload hx hb dL_same_213 (lv_at hl 18 rfl) ?_
          refine lv_iload hx hb dL_same_215 (lv_at hl 13 rfl) ?_
          obtain ⟨ha, hb2⟩ := h
          refine lv_icmp_ne (tgt := 223) hx hb dL_same_217 (by decide) (fun hc => ?_) (fun hc => ?_)
          · replace h := ha hc
            refine lv_iload hx hb dL_same_223 (lv_at hl 13 rfl) ?_
            refine lv_iload hx hb dL_same_225 (lv_at hl 18 rfl) ?_
            refine lv_aload_n hx hb dL_same_227 rfl (lv_at hl 3 rfl) ?_
            obtain ⟨hc307, hc308, h⟩ := h
            refine k_calli0 (va_runS (As := [.int x13, .int x18, .ref x3]) (rest := []) ⟨hx, hb, hml, hown, hts⟩ (c_L_order l G _ _ _ x13 x18 x3 h) (va_cwS 3 hts gL_same_L_order rfl rfl rfl (by decide +kernel) ⟨Nat.le_of_ble_eq_true rfl, Nat.le_of_ble_eq_true rfl⟩) (k_preS hR hS hA hE) rfl rfl hl.1 rfl (lv_room (Nat.le_of_ble_eq_true rfl)) dL_same_228 ⟨hc307, hc308⟩) hR hS hA (fun r304 M305 H locs h hR hS => ?_)
            refine lv_istore (lv' := [(19, .int r304), (0, .ref x0), (1, .int x1), (2, .ref x2), (3, .ref x3), (4, .ref x4), (5, .ref x5), (6, .ref x6), (7, .int x7), (8, .int x8), (9, .int x9), (10, .int x10), (11, .int x11), (12, .int x12), (13, .int x13), (14, .int x14), (15, .int x15), (16, .int x16), (17, .int x17), (18, .int x18)]) hx hb dL_same_231 hl (by decide) rfl (fun ls hl => ?_)
            refine lv_iload hx hb dL_same_233 (lv_at hl 9 rfl) ?_
            refine lv_iload hx hb dL_same_235 (lv_at hl 19 rfl) ?_
            refine lv_iload hx hb dL_same_237 (lv_at hl 14 rfl) ?_
            obtain ⟨ha, hb2⟩ := h
            refine lv_icmp_le (tgt := 252) hx hb dL_same_239 (by decide) (fun hc => ?_) (fun hc => ?_)
            · replace h := ha hc
              exact b252 _ hK25 _ ih _ _ _ _ _ _ _ _ _ _ _ _ _ _ _ _ _ _ _ _ _ _ _ _ _ _ h (lv_sub hl [1, 2, 3, 4, 5, 6, 7, 8, 10, 11, 12, 13, 14, 15, 16, 17, 18, 19, 0] rfl) hR hS
            · replace h := hb2 hc
              refine lv_iload hx hb dL_same_242 (lv_at hl 0 rfl) ?_
              refine lv_iconst (v := (3 : Int32)) hx hb dL_same_244 (by decide) ?_
              obtain ⟨ha, hb2⟩ := h
              refine lv_icmp_ne (tgt := 252) hx hb dL_same_245 (by decide) (fun hc => ?_) (fun hc => ?_)
              · replace h := ha hc
                exact b252 _ hK25 _ ih _ _ _ _ _ _ _ _ _ _ _ _ _ _ _ _ _ _ _ _ _ _ _ _ _ _ h (lv_sub hl [1, 2, 3, 4, 5, 6, 7, 8, 10, 11, 12, 13, 14, 15, 16, 17, 18, 19, 0] rfl) hR hS
              · replace h := hb2 hc
                refine lv_iconst (v := (1 : Int32)) hx hb dL_same_248 (by decide) ?_
                refine lv_goto (tgt := 253) hx hb dL_same_249 (by decide) ?_
                exact b253 _ hK25 _ ih _ _ _ _ _ _ _ _ _ _ _ _ _ _ _ _ _ _ _ _ _ _ _ _ _ _ _ h (lv_sub hl [1, 2, 3, 4, 5, 6, 7, 8, 10, 11, 12, 13, 14, 15, 16, 17, 18, 19, 0] rfl) hR hS
          · replace h := hb2 hc
            refine lv_goto (tgt := 327) hx hb dL_same_220 (by decide) ?_
            refine lv_iinc (v := (x18 + (1 : Int32))) (lv' := [(18, .int (x18 + (1 : Int32))), (0, .ref x0), (1, .int x1), (2, .ref x2), (3, .ref x3), (4, .ref x4), (5, .ref x5), (6, .ref x6), (7, .int x7), (8, .int x8), (9, .int x9), (10, .int x10), (11, .int x11), (12, .int x12), (13, .int x13), (14, .int x14), (15, .int x15), (16, .int x16), (17, .int x17)]) hx hb dL_same_327 hl (k := 18) rfl rfl (by decide) rfl (fun ls hl => ?_)
            refine lv_goto (tgt := 199) hx hb dL_same_330 (by decide) ?_
            exact ih _ _ _ _ _ _ _ _ _ _ _ _ _ _ _ _ _ _ _ _ _ _ _ _ _ h (lv_sub hl [1, 2, 3, 4, 5, 6, 7, 8, 9, 10, 11, 12, 13, 14, 15, 16, 17, 18, 0] rfl) hR hS
  have L132 : ∀ (K25 : Nat → Int32 → Nat → Nat → Nat → Nat → Nat → Int32 → Int32 → Int32 → Int32 → Int32 → Int32 → Int32 → Nat → Nat → k_M → Prop) (hK25 : ∀ (x0 : Nat) (x1 : Int32) (x2 : Nat) (x3 : Nat) (x4 : Nat) (x5 : Nat) (x6 : Nat) (x7 : Int32) (x8 : Int32) (x9 : Int32) (x10 : Int32) (x11 : Int32) (x12 : Int32) (x13 : Int32) (kc : Nat) (ks : Nat) (M : k_M) (H : Heap) (locs : List Loc) (ls : Array Slot), K25 x0 x1 x2 x3 x4 x5 x6 x7 x8 x9 x10 x11 x12 x13 kc ks M → lv_has ls 20 [(0, .ref x0), (1, .int x1), (2, .ref x2), (3, .ref x3), (4, .ref x4), (5, .ref x5), (6, .ref x6), (7, .int x7), (8, .int x8), (9, .int x9), (10, .int x10), (11, .int x11), (12, .int x12), (13, .int x13)] → kR G M (kA M0 s.heap.size) H → va_S (kA M0 s.heap.size) s.heap H locs → W p l e (headSpec wsL_same ({ frames := 16, cells := mc, slots := ms, locals := 369 })).room s m ([.ref p0, .int p1, .ref p2, .ref p3, .ref p4, .ref p5, .ref p6] : List Value).toArray below meth c H locs kc ks (MQ below (va_Qi post (kB G M0 s.heap.size) (kA M0 s.heap.size)) ([.ref p0, .int p1, .ref p2, .ref p3, .ref p4, .ref p5, .ref p6] : List Value).toArray s mc ms (kA M0 s.heap.size)) (F0 m 25 ls [])) (n : Nat), ∀ (x0 : Nat) (x1 : Int32) (x2 : Nat) (x3 : Nat) (x4 : Nat) (x5 : Nat) (x6 : Nat) (x7 : Int32) (x8 : Int32) (x9 : Int32) (x10 : Int32) (x11 : Int32) (x12 : Int32) (x13 : Int32) (x14 : Int32) (x15 : Int32) (x16 : Int32) (x17 : Int32) (x18 : Int32) (kc : Nat) (ks : Nat) (M : k_M) (H : Heap) (locs : List Loc) (ls : Array Slot), wp_L_same_L132 G mc ms post K25 n x0 x1 x2 x3 x4 x5 x6 x7 x8 x9 x10 x11 x12 x13 x14 x15 x16 x17 x18 kc ks M → lv_has ls 20 [(0, .ref x0), (1, .int x1), (2, .ref x2), (3, .ref x3), (4, .ref x4), (5, .ref x5), (6, .ref x6), (7, .int x7), (8, .int x8), (9, .int x9), (10, .int x10), (11, .int x11), (12, .int x12), (13, .int x13), (14, .int x14), (15, .int x15), (16, .int x16), (17, .int x17), (18, .int x18)] → kR G M (kA M0 s.heap.size) H → va_S (kA M0 s.heap.size) s.heap H locs → W p l e (headSpec wsL_same ({ frames := 16, cells := mc, slots := ms, locals := 369 })).room s m ([.ref p0, .int p1, .ref p2, .ref p3, .ref p4, .ref p5, .ref p6] : List Value).toArray below meth c H locs kc ks (MQ below (va_Qi post (kB G M0 s.heap.size) (kA M0 s.heap.size)) ([.ref p0, .int p1, .ref p2, .ref p3, .ref p4, .ref p5, .ref p6] : List Value).toArray s mc ms (kA M0 s.heap.size)) (F0 m 132 ls []) := by
    intro K25 hK25 n
    induction n with
    | zero =>
      intro  x0 x1 x2 x3 x4 x5 x6 x7 x8 x9 x10 x11 x12 x13 x14 x15 x16 x17 x18 kc ks M H locs ls h
      exact False.elim h
    | succ n ih =>
      intro  x0 x1 x2 x3 x4 x5 x6 x7 x8 x9 x10 x11 x12 x13 x14 x15 x16 x17 x18 kc ks M H locs ls h hl hR hS
      refine lv_iload hx hb dL_same_132 (lv_at hl 18 rfl) ?_
      refine lv_aload hx hb dL_same_134 (lv_at hl 5 rfl) ?_
      refine lv_iconst (v := (1 : Int32)) hx hb dL_same_136 (by decide) ?_
      obtain ⟨n172, f173, hm174, hv175, h⟩ := h
      refine k_iald hx hb hK hR hm174 hv175 dL_same_137 ?_
      obtain ⟨ha, hb2⟩ := h
      refine lv_icmp_ge (tgt := 196) hx hb dL_same_138 (by decide) (fun hc => ?_) (fun hc => ?_)
      · replace h := ha hc
        refine lv_iconst (v := (0 : Int32)) hx hb dL_same_196 (by decide) ?_
        refine lv_istore (lv' := [(18, .int (0 : Int32)), (0, .ref x0), (1, .int x1), (2, .ref x2), (3, .ref x3), (4, .ref x4), (5, .ref x5), (6, .ref x6), (7, .int x7), (8, .int x8), (9, .int x9), (10, .int x10), (11, .int x11), (12, .int x12), (13, .int x13), (14, .int x14), (15, .int x15), (16, .int x16), (17, .int x17)]) hx hb dL_same_197 hl (by decide) rfl (fun ls hl => ?_)
        obtain ⟨k176, h⟩ := h
        exact L199 _ hK25 k176 _ _ _ _ _ _ _ _ _ _ _ _ _ _ _ _ _ _ _ _ _ _ _ _ _ h (lv_sub hl [1, 2, 3, 4, 5, 6, 7, 8, 9, 10, 11, 12, 13, 14, 15, 16, 17, 18, 0] rfl) hR hS
      · replace h := hb2 hc
        refine lv_aload_n hx hb dL_same_141 rfl (lv_at hl 0 rfl) ?_
        refine lv_iconst (v := (0 : Int32)) hx hb dL_same_142 (by decide) ?_
        refine lv_iload hx hb dL_same_143 (lv_at hl 13 rfl) ?_
        refine lv_iload hx hb dL_same_145 (lv_at hl 18 rfl) ?_
        obtain ⟨fs337, hm336, h⟩ := h
        obtain ⟨hc338, hc339, h⟩ := h
        refine k_calli0 (va_runV (As := [.int (0 : Int32), .int x13, .int x18]) (rest := []) ⟨hx, hb, hml, hown, hts⟩ (c_X3_knows l G _ _ _ x0 (0 : Int32) x13 x18 h) (cwV 3 hts gL_same_X3_knows rfl rfl rfl (by decide +kernel) ⟨Nat.le_of_ble_eq_true rfl, Nat.le_of_ble_eq_true rfl⟩) (k_preV (q := (RX3, TX3, 8)) hm336 rfl hR hS hA hE) rfl rfl hl.1 rfl (lv_room (Nat.le_of_ble_eq_true rfl)) dL_same_147 ⟨hc338, hc339⟩) hR hS hA (fun r334 M335 H locs h hR hS => ?_)
        refine lv_aload hx hb dL_same_150 (lv_at hl 4 rfl) ?_
        refine lv_iload hx hb dL_same_152 (lv_at hl 13 rfl) ?_
        obtain ⟨n340, f341, hm342, hv343, h⟩ := h
        refine k_lald hx hb hK hR hm342 hv343 dL_same_154 ?_
        refine lv_iload hx hb dL_same_155 (lv_at hl 18 rfl) ?_
        refine lv_lushr hx hb dL_same_157 rfl ?_
        refine lv_lconst (v := (1 : Int64)) hx hb dL_same_158 (by decide) ?_
        refine lv_land hx hb dL_same_159 ?_
        refine lv_l2i hx hb dL_same_160 rfl ?_
        obtain ⟨ha, hb2⟩ := h
        refine lv_icmp_eq (tgt := 166) hx hb dL_same_161 (by decide) (fun hc => ?_) (fun hc => ?_)
        · replace h := ha hc
          refine lv_aload hx hb dL_same_166 (lv_at hl 4 rfl) ?_
          refine lv_iload hx hb dL_same_168 (lv_at hl 13 rfl) ?_
          obtain ⟨n344, f345, hm346, hv347, h⟩ := h
          refine k_lald hx hb hK hR hm346 hv347 dL_same_170 ?_
          refine lv_iload hx hb dL_same_171 (lv_at hl 18 rfl) ?_
          refine lv_lushr hx hb dL_same_173 rfl ?_
          refine lv_lconst (v := (1 : Int64)) hx hb dL_same_174 (by decide) ?_
          refine lv_land hx hb dL_same_175 ?_
          refine lv_lconst (v := (1 : Int64)) hx hb dL_same_176 (by decide) ?_
          refine W.lcmp hx hb dL_same_177 ?_
          obtain ⟨ha, hb2⟩ := h
          refine lv_if_ne (tgt := 186) hx hb dL_same_178 (by decide) (fun hc => ?_) (fun hc => ?_)
          · replace h := ha hc
            refine lv_iload hx hb dL_same_186 (lv_at hl 16 rfl) ?_
            refine lv_istore (lv' := [(16, .int x16), (0, .ref x0), (1, .int x1), (2, .ref x2), (3, .ref x3), (4, .ref x4), (5, .ref x5), (6, .ref x6), (7, .int x7), (8, .int x8), (9, .int x9), (10, .int x10), (11, .int x11), (12, .int x12), (13, .int x13), (14, .int x14), (15, .int x15), (17, .int x17), (18, .int x18)]) hx hb dL_same_188 hl (by decide) rfl (fun ls hl => ?_)
            refine lv_iinc (v := (x18 + (1 : Int32))) (lv' := [(18, .int (x18 + (1 : Int32))), (16, .int x16), (0, .ref x0), (1, .int x1), (2, .ref x2), (3, .ref x3), (4, .ref x4), (5, .ref x5), (6, .ref x6), (7, .int x7), (8, .int x8), (9, .int x9), (10, .int x10), (11, .int x11), (12, .int x12), (13, .int x13), (14, .int x14), (15, .int x15), (17, .int x17)]) hx hb dL_same_190 hl (k := 18) rfl rfl (by decide) rfl (fun ls hl => ?_)
            refine lv_goto (tgt := 132) hx hb dL_same_193 (by decide) ?_
            exact ih _ _ _ _ _ _ _ _ _ _ _ _ _ _ _ _ _ _ _ _ _ _ _ _ _ h (lv_sub hl [2, 3, 4, 5, 6, 7, 8, 9, 10, 11, 12, 13, 14, 15, 16, 17, 1, 18, 0] rfl) hR hS
          · replace h := hb2 hc
            refine lv_iload hx hb dL_same_181 (lv_at hl 18 rfl) ?_
            refine lv_goto (tgt := 188) hx hb dL_same_183 (by decide) ?_
            refine lv_istore (lv' := [(16, .int x18), (0, .ref x0), (1, .int x1), (2, .ref x2), (3, .ref x3), (4, .ref x4), (5, .ref x5), (6, .ref x6), (7, .int x7), (8, .int x8), (9, .int x9), (10, .int x10), (11, .int x11), (12, .int x12), (13, .int x13), (14, .int x14), (15, .int x15), (17, .int x17), (18, .int x18)]) hx hb dL_same_188 hl (by decide) rfl (fun ls hl => ?_)
            refine lv_iinc (v := (x18 + (1 : Int32))) (lv' := [(18, .int (x18 + (1 : Int32))), (16, .int x18), (0, .ref x0), (1, .int x1), (2, .ref x2), (3, .ref x3), (4, .ref x4), (5, .ref x5), (6, .ref x6), (7, .int x7), (8, .int x8), (9, .int x9), (10, .int x10), (11, .int x11), (12, .int x12), (13, .int x13), (14, .int x14), (15, .int x15), (17, .int x17)]) hx hb dL_same_190 hl (k := 18) rfl rfl (by decide) rfl (fun ls hl => ?_)
            refine lv_goto (tgt := 132) hx hb dL_same_193 (by decide) ?_
            exact ih _ _ _ _ _ _ _ _ _ _ _ _ _ _ _ _ _ _ _ _ _ _ _ _ _ h (lv_sub hl [2, 3, 4, 5, 6, 7, 8, 9, 10, 11, 12, 13, 14, 15, 16, 17, 1, 18, 0] rfl) hR hS
        · replace h := hb2 hc
          refine lv_iconst (v := (0 : Int32)) hx hb dL_same_164 (by decide) ?_
          obtain ⟨hwc, hws, h⟩ := h
          refine W.widen (k := mc) (n := ms) hwc hws ?_
          exact k_reti hx hb hr hlocks (by decide) hR hS h dL_same_165
  have b105 : ∀ (K25 : Nat → Int32 → Nat → Nat → Nat → Nat → Nat → Int32 → Int32 → Int32 → Int32 → Int32 → Int32 → Int32 → Nat → Nat → k_M → Prop) (hK25 : ∀ (x0 : Nat) (x1 : Int32) (x2 : Nat) (x3 : Nat) (x4 : Nat) (x5 : Nat) (x6 : Nat) (x7 : Int32) (x8 : Int32) (x9 : Int32) (x10 : Int32) (x11 : Int32) (x12 : Int32) (x13 : Int32) (kc : Nat) (ks : Nat) (M : k_M) (H : Heap) (locs : List Loc) (ls : Array Slot), K25 x0 x1 x2 x3 x4 x5 x6 x7 x8 x9 x10 x11 x12 x13 kc ks M → lv_has ls 20 [(0, .ref x0), (1, .int x1), (2, .ref x2), (3, .ref x3), (4, .ref x4), (5, .ref x5), (6, .ref x6), (7, .int x7), (8, .int x8), (9, .int x9), (10, .int x10), (11, .int x11), (12, .int x12), (13, .int x13)] → kR G M (kA M0 s.heap.size) H → va_S (kA M0 s.heap.size) s.heap H locs → W p l e (headSpec wsL_same ({ frames := 16, cells := mc, slots := ms, locals := 369 })).room s m ([.ref p0, .int p1, .ref p2, .ref p3, .ref p4, .ref p5, .ref p6] : List Value).toArray below meth c H locs kc ks (MQ below (va_Qi post (kB G M0 s.heap.size) (kA M0 s.heap.size)) ([.ref p0, .int p1, .ref p2, .ref p3, .ref p4, .ref p5, .ref p6] : List Value).toArray s mc ms (kA M0 s.heap.size)) (F0 m 25 ls [])) (K67 : Nat → Int32 → Nat → Nat → Nat → Nat → Nat → Int32 → Int32 → Int32 → Int32 → Int32 → Int32 → Int32 → Int32 → Int32 → Int32 → Int32 → Int32 → Nat → Nat → k_M → Prop) (hK67 : ∀ (x0 : Nat) (x1 : Int32) (x2 : Nat) (x3 : Nat) (x4 : Nat) (x5 : Nat) (x6 : Nat) (x7 : Int32) (x8 : Int32) (x9 : Int32) (x10 : Int32) (x11 : Int32) (x12 : Int32) (x13 : Int32) (x14 : Int32) (x15 : Int32) (x16 : Int32) (x17 : Int32) (x18 : Int32) (kc : Nat) (ks : Nat) (M : k_M) (H : Heap) (locs : List Loc) (ls : Array Slot), K67 x0 x1 x2 x3 x4 x5 x6 x7 x8 x9 x10 x11 x12 x13 x14 x15 x16 x17 x18 kc ks M → lv_has ls 20 [(0, .ref x0), (1, .int x1), (2, .ref x2), (3, .ref x3), (4, .ref x4), (5, .ref x5), (6, .ref x6), (7, .int x7), (8, .int x8), (9, .int x9), (10, .int x10), (11, .int x11), (12, .int x12), (13, .int x13), (14, .int x14), (15, .int x15), (16, .int x16), (17, .int x17), (18, .int x18)] → kR G M (kA M0 s.heap.size) H → va_S (kA M0 s.heap.size) s.heap H locs → W p l e (headSpec wsL_same ({ frames := 16, cells := mc, slots := ms, locals := 369 })).room s m ([.ref p0, .int p1, .ref p2, .ref p3, .ref p4, .ref p5, .ref p6] : List Value).toArray below meth c H locs kc ks (MQ below (va_Qi post (kB G M0 s.heap.size) (kA M0 s.heap.size)) ([.ref p0, .int p1, .ref p2, .ref p3, .ref p4, .ref p5, .ref p6] : List Value).toArray s mc ms (kA M0 s.heap.size)) (F0 m 67 ls [])), ∀ (x0 : Nat) (x1 : Int32) (x2 : Nat) (x3 : Nat) (x4 : Nat) (x5 : Nat) (x6 : Nat) (x7 : Int32) (x8 : Int32) (x9 : Int32) (x10 : Int32) (x11 : Int32) (x12 : Int32) (x13 : Int32) (x14 : Int32) (x16 : Int32) (x17 : Int32) (x18 : Int32) (x19 : Int32) (s0 : Int32) (kc : Nat) (ks : Nat) (M : k_M) (H : Heap) (locs : List Loc) (ls : Array Slot), wp_L_same_b105 G mc ms post K25 K67 x0 x1 x2 x3 x4 x5 x6 x7 x8 x9 x10 x11 x12 x13 x14 x16 x17 x18 x19 s0 kc ks M → lv_has ls 20 [(0, .ref x0), (1, .int x1), (2, .ref x2), (3, .ref x3), (4, .ref x4), (5, .ref x5), (6, .ref x6), (7, .int x7), (8, .int x8), (9, .int x9), (10, .int x10), (11, .int x11), (12, .int x12), (13, .int x13), (14, .int x14), (16, .int x16), (17, .int x17), (18, .int x18), (19, .int x19)] → kR G M (kA M0 s.heap.size) H → va_S (kA M0 s.heap.size) s.heap H locs → W p l e (headSpec wsL_same ({ frames := 16, cells := mc, slots := ms, locals := 369 })).room s m ([.ref p0, .int p1, .ref p2, .ref p3, .ref p4, .ref p5, .ref p6] : List Value).toArray below meth c H locs kc ks (MQ below (va_Qi post (kB G M0 s.heap.size) (kA M0 s.heap.size)) ([.ref p0, .int p1, .ref p2, .ref p3, .ref p4, .ref p5, .ref p6] : List Value).toArray s mc ms (kA M0 s.heap.size)) (F0 m 105 ls [.int s0]) := by
    intro K25 hK25 K67 hK67 x0 x1 x2 x3 x4 x5 x6 x7 x8 x9 x10 x11 x12 x13 x14 x16 x17 x18 x19 s0 kc ks M H locs ls h hl hR hS
    refine lv_istore (lv' := [(15, .int s0), (0, .ref x0), (1, .int x1), (2, .ref x2), (3, .ref x3), (4, .ref x4), (5, .ref x5), (6, .ref x6), (7, .int x7), (8, .int x8), (9, .int x9), (10, .int x10), (11, .int x11), (12, .int x12), (13, .int x13), (14, .int x14), (16, .int x16), (17, .int x17), (18, .int x18), (19, .int x19)]) hx hb dL_same_105 hl (by decide) rfl (fun ls hl => ?_)
    refine lv_aload_n hx hb dL_same_107 rfl (lv_at hl 1 rfl) ?_
    refine lv_iconst (v := (0 : Int32)) hx hb dL_same_108 (by decide) ?_
    refine lv_iload hx hb dL_same_109 (lv_at hl 14 rfl) ?_
    refine lv_iload hx hb dL_same_111 (lv_at hl 18 rfl) ?_
    obtain ⟨fs356, hm355, h⟩ := h
    obtain ⟨hc357, hc358, h⟩ := h
    refine k_calli0 (va_runV (As := [.int (0 : Int32), .int x13, .int x18]) (rest := []) ⟨hx, hb, hml, hown, hts⟩ (c_X3_height l G _ _ _ x0 (0 : Int32) x13 x18 h) (cwV 3 hts gL_same_X3_height rfl rfl rfl (by decide +kernel) ⟨Nat.le_of_ble_eq_true rfl, Nat.le_of_ble_eq_true rfl⟩) (k_preV (q := (RX3, TX3, 8)) hm355 rfl hR hS hA hE) rfl rfl hl.1 rfl (lv_room (Nat.le_of_ble_eq_true rfl)) dL_same_113 ⟨hc357, hc358⟩) hR hS hA (fun r353 M354 H locs h hR hS => ?_)
    refine lv_iload hx hb dL_same_116 (lv_at hl 19 rfl) ?_
    obtain ⟨ha, hb2⟩ := h
    refine lv_icmp_eq (tgt := 123) hx hb dL_same_118 (by decide) (fun hc => ?_) (fun hc => ?_)
    · replace h := ha hc
      refine lv_iinc (v := (x18 + (1 : Int32))) (lv' := [(18, .int (x18 + (1 : Int32))), (15, .int s0), (0, .ref x0), (1, .int x1), (2, .ref x2), (3, .ref x3), (4, .ref x4), (5, .ref x5), (6, .ref x6), (7, .int x7), (8, .int x8), (9, .int x9), (10, .int x10), (11, .int x11), (12, .int x12), (13, .int x13), (14, .int x14), (16, .int x16), (17, .int x17), (19, .int x19)]) hx hb dL_same_123 hl (k := 18) rfl rfl (by decide) rfl (fun ls hl => ?_)
      refine lv_goto (tgt := 67) hx hb dL_same_126 (by decide) ?_
      exact hK67 _ _ _ _ _ _ _ _ _ _ _ _ _ _ _ _ _ _ _ _ _ _ _ _ _ h (lv_sub hl [2, 3, 4, 5, 6, 7, 8, 9, 10, 11, 12, 13, 14, 15, 16, 1, 17, 18, 0] rfl) hR hS
    · replace h := hb2 hc
      refine lv_iconst (v := (0 : Int32)) hx hb dL_same_121 (by decide) ?_
      obtain ⟨hwc, hws, h⟩ := h
      refine W.widen (k := mc) (n := ms) hwc hws ?_
      exact k_reti hx hb hr hlocks (by decide) hR hS h dL_same_122
  have L67 : ∀ (K25 : Nat → Int32 → Nat → Nat → Nat → Nat → Nat → Int32 → Int32 → Int32 → Int32 → Int32 → Int32 → Int32 → Nat → Nat → k_M → Prop) (hK25 : ∀ (x0 : Nat) (x1 : Int32) (x2 : Nat) (x3 : Nat) (x4 : Nat) (x5 : Nat) (x6 : Nat) (x7 : Int32) (x8 : Int32) (x9 : Int32) (x10 : Int32) (x11 : Int32) (x12 : Int32) (x13 : Int32) (kc : Nat) (ks : Nat) (M : k_M) (H : Heap) (locs : List Loc) (ls : Array Slot), K25 x0 x1 x2 x3 x4 x5 x6 x7 x8 x9 x10 x11 x12 x13 kc ks M → lv_has ls 20 [(0, .ref x0), (1, .int x1), (2, .ref x2), (3, .ref x3), (4, .ref x4), (5, .ref x5), (6, .ref x6), (7, .int x7), (8, .int x8), (9, .int x9), (10, .int x10), (11, .int x11), (12, .int x12), (13, .int x13)] → kR G M (kA M0 s.heap.size) H → va_S (kA M0 s.heap.size) s.heap H locs → W p l e (headSpec wsL_same ({ frames := 16, cells := mc, slots := ms, locals := 369 })).room s m ([.ref p0, .int p1, .ref p2, .ref p3, .ref p4, .ref p5, .ref p6] : List Value).toArray below meth c H locs kc ks (MQ below (va_Qi post (kB G M0 s.heap.size) (kA M0 s.heap.size)) ([.ref p0, .int p1, .ref p2, .ref p3, .ref p4, .ref p5, .ref p6] : List Value).toArray s mc ms (kA M0 s.heap.size)) (F0 m 25 ls [])) (n : Nat), ∀ (x0 : Nat) (x1 : Int32) (x2 : Nat) (x3 : Nat) (x4 : Nat) (x5 : Nat) (x6 : Nat) (x7 : Int32) (x8 : Int32) (x9 : Int32) (x10 : Int32) (x11 : Int32) (x12 : Int32) (x13 : Int32) (x14 : Int32) (x15 : Int32) (x16 : Int32) (x17 : Int32) (x18 : Int32) (kc : Nat) (ks : Nat) (M : k_M) (H : Heap) (locs : List Loc) (ls : Array Slot), wp_L_same_L67 G mc ms post K25 n x0 x1 x2 x3 x4 x5 x6 x7 x8 x9 x10 x11 x12 x13 x14 x15 x16 x17 x18 kc ks M → lv_has ls 20 [(0, .ref x0), (1, .int x1), (2, .ref x2), (3, .ref x3), (4, .ref x4), (5, .ref x5), (6, .ref x6), (7, .int x7), (8, .int x8), (9, .int x9), (10, .int x10), (11, .int x11), (12, .int x12), (13, .int x13), (14, .int x14), (15, .int x15), (16, .int x16), (17, .int x17), (18, .int x18)] → kR G M (kA M0 s.heap.size) H → va_S (kA M0 s.heap.size) s.heap H locs → W p l e (headSpec wsL_same ({ frames := 16, cells := mc, slots := ms, locals := 369 })).room s m ([.ref p0, .int p1, .ref p2, .ref p3, .ref p4, .ref p5, .ref p6] : List Value).toArray below meth c H locs kc ks (MQ below (va_Qi post (kB G M0 s.heap.size) (kA M0 s.heap.size)) ([.ref p0, .int p1, .ref p2, .ref p3, .ref p4, .ref p5, .ref p6] : List Value).toArray s mc ms (kA M0 s.heap.size)) (F0 m 67 ls []) := by
    intro K25 hK25 n
    induction n with
    | zero =>
      intro  x0 x1 x2 x3 x4 x5 x6 x7 x8 x9 x10 x11 x12 x13 x14 x15 x16 x17 x18 kc ks M H locs ls h
      exact False.elim h
    | succ n ih =>
      intro  x0 x1 x2 x3 x4 x5 x6 x7 x8 x9 x10 x11 x12 x13 x14 x15 x16 x17 x18 kc ks M H locs ls h hl hR hS
      refine lv_iload hx hb dL_same_67 (lv_at hl 18 rfl) ?_
      refine lv_bipush (v := (16 : Int32)) hx hb dL_same_69 (by decide) ?_
      obtain ⟨ha, hb2⟩ := h
      refine lv_icmp_ge (tgt := 129) hx hb dL_same_71 (by decide) (fun hc => ?_) (fun hc => ?_)
      · replace h := ha hc
        refine lv_iconst (v := (0 : Int32)) hx hb dL_same_129 (by decide) ?_
        refine lv_istore (lv' := [(18, .int (0 : Int32)), (0, .ref x0), (1, .int x1), (2, .ref x2), (3, .ref x3), (4, .ref x4), (5, .ref x5), (6, .ref x6), (7, .int x7), (8, .int x8), (9, .int x9), (10, .int x10), (11, .int x11), (12, .int x12), (13, .int x13), (14, .int x14), (15, .int x15), (16, .int x16), (17, .int x17)]) hx hb dL_same_130 hl (by decide) rfl (fun ls hl => ?_)
        obtain ⟨k171, h⟩ := h
        exact L132 _ hK25 k171 _ _ _ _ _ _ _ _ _ _ _ _ _ _ _ _ _ _ _ _ _ _ _ _ _ h (lv_sub hl [1, 2, 3, 4, 5, 6, 7, 8, 9, 10, 11, 12, 13, 14, 15, 16, 17, 18, 0] rfl) hR hS
      · replace h := hb2 hc
        refine lv_iload hx hb dL_same_74 (lv_at hl 13 rfl) ?_
        refine lv_iload hx hb dL_same_76 (lv_at hl 18 rfl) ?_
        refine lv_aload_n hx hb dL_same_78 rfl (lv_at hl 3 rfl) ?_
        obtain ⟨hc351, hc352, h⟩ := h
        refine k_calli0 (va_runS (As := [.int x13, .int x18, .ref x3]) (rest := []) ⟨hx, hb, hml, hown, hts⟩ (c_L_height l G _ _ _ x13 x18 x3 h) (va_cwS 3 hts gL_same_L_height rfl rfl rfl (by decide +kernel) ⟨Nat.le_of_ble_eq_true rfl, Nat.le_of_ble_eq_true rfl⟩) (k_preS hR hS hA hE) rfl rfl hl.1 rfl (lv_room (Nat.le_of_ble_eq_true rfl)) dL_same_79 ⟨hc351, hc352⟩) hR hS hA (fun r348 M349 H locs h hR hS => ?_)
        refine lv_istore (lv' := [(19, .int r348), (0, .ref x0), (1, .int x1), (2, .ref x2), (3, .ref x3), (4, .ref x4), (5, .ref x5), (6, .ref x6), (7, .int x7), (8, .int x8), (9, .int x9), (10, .int x10), (11, .int x11), (12, .int x12), (13, .int x13), (14, .int x14), (15, .int x15), (16, .int x16), (17, .int x17), (18, .int x18)]) hx hb dL_same_82 hl (by decide) rfl (fun ls hl => ?_)
        refine lv_iload hx hb dL_same_84 (lv_at hl 15 rfl) ?_
        refine lv_iload hx hb dL_same_86 (lv_at hl 0 rfl) ?_
        refine lv_iadd hx hb dL_same_88 ?_
        refine lv_istore (lv' := [(14, .int (x14 + r348)), (19, .int r348), (0, .ref x0), (1, .int x1), (2, .ref x2), (3, .ref x3), (4, .ref x4), (5, .ref x5), (6, .ref x6), (7, .int x7), (8, .int x8), (9, .int x9), (10, .int x10), (11, .int x11), (12, .int x12), (13, .int x13), (15, .int x15), (16, .int x16), (17, .int x17), (18, .int x18)]) hx hb dL_same_89 hl (by decide) rfl (fun ls hl => ?_)
        refine lv_iload hx hb dL_same_91 (lv_at hl 1 rfl) ?_
        refine lv_iload hx hb dL_same_93 (lv_at hl 16 rfl) ?_
        obtain ⟨ha, hb2⟩ := h
        refine lv_icmp_le (tgt := 103) hx hb dL_same_95 (by decide) (fun hc => ?_) (fun hc => ?_)
        · replace h := ha hc
          refine lv_iload hx hb dL_same_103 (lv_at hl 16 rfl) ?_
          exact b105 _ hK25 _ ih _ _ _ _ _ _ _ _ _ _ _ _ _ _ _ _ _ _ _ _ _ _ _ _ _ _ h (lv_sub hl [2, 3, 4, 5, 6, 7, 8, 9, 10, 11, 12, 13, 14, 15, 0, 17, 18, 19, 1] rfl) hR hS
        · replace h := hb2 hc
          refine lv_iload hx hb dL_same_98 (lv_at hl 1 rfl) ?_
          refine lv_goto (tgt := 105) hx hb dL_same_100 (by decide) ?_
          exact b105 _ hK25 _ ih _ _ _ _ _ _ _ _ _ _ _ _ _ _ _ _ _ _ _ _ _ _ _ _ _ _ h (lv_sub hl [2, 3, 4, 5, 6, 7, 8, 9, 10, 11, 12, 13, 14, 15, 0, 17, 18, 19, 1] rfl) hR hS
  have L25 : ∀ (n : Nat), ∀ (x0 : Nat) (x1 : Int32) (x2 : Nat) (x3 : Nat) (x4 : Nat) (x5 : Nat) (x6 : Nat) (x7 : Int32) (x8 : Int32) (x9 : Int32) (x10 : Int32) (x11 : Int32) (x12 : Int32) (x13 : Int32) (kc : Nat) (ks : Nat) (M : k_M) (H : Heap) (locs : List Loc) (ls : Array Slot), wp_L_same_L25 G mc ms post n x0 x1 x2 x3 x4 x5 x6 x7 x8 x9 x10 x11 x12 x13 kc ks M → lv_has ls 20 [(0, .ref x0), (1, .int x1), (2, .ref x2), (3, .ref x3), (4, .ref x4), (5, .ref x5), (6, .ref x6), (7, .int x7), (8, .int x8), (9, .int x9), (10, .int x10), (11, .int x11), (12, .int x12), (13, .int x13)] → kR G M (kA M0 s.heap.size) H → va_S (kA M0 s.heap.size) s.heap H locs → W p l e (headSpec wsL_same ({ frames := 16, cells := mc, slots := ms, locals := 369 })).room s m ([.ref p0, .int p1, .ref p2, .ref p3, .ref p4, .ref p5, .ref p6] : List Value).toArray below meth c H locs kc ks (MQ below (va_Qi post (kB G M0 s.heap.size) (kA M0 s.heap.size)) ([.ref p0, .int p1, .ref p2, .ref p3, .ref p4, .ref p5, .ref p6] : List Value).toArray s mc ms (kA M0 s.heap.size)) (F0 m 25 ls []) := by
    intro n
    induction n with
    | zero =>
      intro  x0 x1 x2 x3 x4 x5 x6 x7 x8 x9 x10 x11 x12 x13 kc ks M H locs ls h
      exact False.elim h
    | succ n ih =>
      intro  x0 x1 x2 x3 x4 x5 x6 x7 x8 x9 x10 x11 x12 x13 kc ks M H locs ls h hl hR hS
      refine lv_iload hx hb dL_same_25 (lv_at hl 13 rfl) ?_
      refine lv_bipush (v := (8 : Int32)) hx hb dL_same_27 (by decide) ?_
      obtain ⟨ha, hb2⟩ := h
      refine lv_icmp_ge (tgt := 571) hx hb dL_same_29 (by decide) (fun hc => ?_) (fun hc => ?_)
      · replace h := ha hc
        refine lv_iconst (v := (0 : Int32)) hx hb dL_same_571 (by decide) ?_
        refine lv_istore (lv' := [(13, .int (0 : Int32)), (0, .ref x0), (1, .int x1), (2, .ref x2), (3, .ref x3), (4, .ref x4), (5, .ref x5), (6, .ref x6), (7, .int x7), (8, .int x8), (9, .int x9), (10, .int x10), (11, .int x11), (12, .int x12)]) hx hb dL_same_572 hl (by decide) rfl (fun ls hl => ?_)
        obtain ⟨k2, h⟩ := h
        exact L574 k2 _ _ _ _ _ _ _ _ _ _ _ _ _ _ _ _ _ _ _ _ h (lv_sub hl [1, 2, 3, 4, 5, 6, 7, 8, 9, 10, 11, 12, 13, 0] rfl) hR hS
      · replace h := hb2 hc
        refine lv_aload_n hx hb dL_same_32 rfl (lv_at hl 2 rfl) ?_
        refine lv_iload hx hb dL_same_33 (lv_at hl 13 rfl) ?_
        obtain ⟨n166, f167, hm168, hv169, h⟩ := h
        refine k_iald hx hb hK hR hm168 hv169 dL_same_35 ?_
        obtain ⟨ha, hb2⟩ := h
        refine lv_if_ne (tgt := 42) hx hb dL_same_36 (by decide) (fun hc => ?_) (fun hc => ?_)
        · replace h := ha hc
          refine lv_iload hx hb dL_same_42 (lv_at hl 7 rfl) ?_
          refine lv_iconst (v := (1 : Int32)) hx hb dL_same_44 (by decide) ?_
          refine lv_iload hx hb dL_same_45 (lv_at hl 13 rfl) ?_
          refine lv_ishl hx hb dL_same_47 ?_
          refine lv_ior hx hb dL_same_48 ?_
          refine lv_istore (lv' := [(7, .int (x7 ||| ((1 : Int32) <<< (x13 &&& 31)))), (0, .ref x0), (1, .int x1), (2, .ref x2), (3, .ref x3), (4, .ref x4), (5, .ref x5), (6, .ref x6), (8, .int x8), (9, .int x9), (10, .int x10), (11, .int x11), (12, .int x12), (13, .int x13)]) hx hb dL_same_49 hl (by decide) rfl (fun ls hl => ?_)
          refine lv_iconst (v := (0 : Int32)) hx hb dL_same_51 (by decide) ?_
          refine lv_istore (lv' := [(14, .int (0 : Int32)), (7, .int (x7 ||| ((1 : Int32) <<< (x13 &&& 31)))), (0, .ref x0), (1, .int x1), (2, .ref x2), (3, .ref x3), (4, .ref x4), (5, .ref x5), (6, .ref x6), (8, .int x8), (9, .int x9), (10, .int x10), (11, .int x11), (12, .int x12), (13, .int x13)]) hx hb dL_same_52 hl (by decide) rfl (fun ls hl => ?_)
          refine lv_iconst (v := (0 : Int32)) hx hb dL_same_54 (by decide) ?_
          refine lv_istore (lv' := [(15, .int (0 : Int32)), (14, .int (0 : Int32)), (7, .int (x7 ||| ((1 : Int32) <<< (x13 &&& 31)))), (0, .ref x0), (1, .int x1), (2, .ref x2), (3, .ref x3), (4, .ref x4), (5, .ref x5), (6, .ref x6), (8, .int x8), (9, .int x9), (10, .int x10), (11, .int x11), (12, .int x12), (13, .int x13)]) hx hb dL_same_55 hl (by decide) rfl (fun ls hl => ?_)
          refine lv_bipush (v := (-6 : Int32)) hx hb dL_same_57 (by decide) ?_
          refine lv_istore (lv' := [(16, .int (-6 : Int32)), (15, .int (0 : Int32)), (14, .int (0 : Int32)), (7, .int (x7 ||| ((1 : Int32) <<< (x13 &&& 31)))), (0, .ref x0), (1, .int x1), (2, .ref x2), (3, .ref x3), (4, .ref x4), (5, .ref x5), (6, .ref x6), (8, .int x8), (9, .int x9), (10, .int x10), (11, .int x11), (12, .int x12), (13, .int x13)]) hx hb dL_same_59 hl (by decide) rfl (fun ls hl => ?_)
          refine lv_iconst (v := (1 : Int32)) hx hb dL_same_61 (by decide) ?_
          refine lv_istore (lv' := [(17, .int (1 : Int32)), (16, .int (-6 : Int32)), (15, .int (0 : Int32)), (14, .int (0 : Int32)), (7, .int (x7 ||| ((1 : Int32) <<< (x13 &&& 31)))), (0, .ref x0), (1, .int x1), (2, .ref x2), (3, .ref x3), (4, .ref x4), (5, .ref x5), (6, .ref x6), (8, .int x8), (9, .int x9), (10, .int x10), (11, .int x11), (12, .int x12), (13, .int x13)]) hx hb dL_same_62 hl (by decide) rfl (fun ls hl => ?_)
          refine lv_iconst (v := (0 : Int32)) hx hb dL_same_64 (by decide) ?_
          refine lv_istore (lv' := [(18, .int (0 : Int32)), (17, .int (1 : Int32)), (16, .int (-6 : Int32)), (15, .int (0 : Int32)), (14, .int (0 : Int32)), (7, .int (x7 ||| ((1 : Int32) <<< (x13 &&& 31)))), (0, .ref x0), (1, .int x1), (2, .ref x2), (3, .ref x3), (4, .ref x4), (5, .ref x5), (6, .ref x6), (8, .int x8), (9, .int x9), (10, .int x10), (11, .int x11), (12, .int x12), (13, .int x13)]) hx hb dL_same_65 hl (by decide) rfl (fun ls hl => ?_)
          obtain ⟨k170, h⟩ := h
          exact L67 _ ih k170 _ _ _ _ _ _ _ _ _ _ _ _ _ _ _ _ _ _ _ _ _ _ _ _ _ h (lv_sub hl [6, 7, 8, 9, 10, 11, 12, 5, 13, 14, 15, 16, 17, 18, 4, 3, 2, 1, 0] rfl) hR hS
        · replace h := hb2 hc
          refine lv_goto (tgt := 565) hx hb dL_same_39 (by decide) ?_
          refine lv_iinc (v := (x13 + (1 : Int32))) (lv' := [(13, .int (x13 + (1 : Int32))), (0, .ref x0), (1, .int x1), (2, .ref x2), (3, .ref x3), (4, .ref x4), (5, .ref x5), (6, .ref x6), (7, .int x7), (8, .int x8), (9, .int x9), (10, .int x10), (11, .int x11), (12, .int x12)]) hx hb dL_same_565 hl (k := 13) rfl rfl (by decide) rfl (fun ls hl => ?_)
          refine lv_goto (tgt := 25) hx hb dL_same_568 (by decide) ?_
          exact ih _ _ _ _ _ _ _ _ _ _ _ _ _ _ _ _ _ _ _ _ h (lv_sub hl [1, 2, 3, 4, 5, 6, 7, 8, 9, 10, 11, 12, 13, 0] rfl) hR hS
  have hl := lv_entry ([.ref p0, .int p1, .ref p2, .ref p3, .ref p4, .ref p5, .ref p6]) (n := 20) (Nat.le_of_ble_eq_true rfl)
  rw [lg_entry_eq]
  generalize (lg_sl ([.ref p0, .int p1, .ref p2, .ref p3, .ref p4, .ref p5, .ref p6]) ++ List.replicate (20 - (lg_sl ([.ref p0, .int p1, .ref p2, .ref p3, .ref p4, .ref p5, .ref p6])).length) Slot.unset).toArray = ls at hl ⊢
  have hl : lv_has ls 20 [(0, .ref p0), (1, .int p1), (2, .ref p2), (3, .ref p3), (4, .ref p4), (5, .ref p5), (6, .ref p6)] := hl
  have hR0 := hR
  refine lv_iconst (v := (0 : Int32)) hx hb dL_same_0 (by decide) ?_
  refine lv_istore (lv' := [(7, .int (0 : Int32)), (0, .ref p0), (1, .int p1), (2, .ref p2), (3, .ref p3), (4, .ref p4), (5, .ref p5), (6, .ref p6)]) hx hb dL_same_1 hl (by decide) rfl (fun ls hl => ?_)
  refine lv_iconst (v := (0 : Int32)) hx hb dL_same_3 (by decide) ?_
  refine lv_istore (lv' := [(8, .int (0 : Int32)), (7, .int (0 : Int32)), (0, .ref p0), (1, .int p1), (2, .ref p2), (3, .ref p3), (4, .ref p4), (5, .ref p5), (6, .ref p6)]) hx hb dL_same_4 hl (by decide) rfl (fun ls hl => ?_)
  refine lv_iconst (v := (0 : Int32)) hx hb dL_same_6 (by decide) ?_
  refine lv_istore (lv' := [(9, .int (0 : Int32)), (8, .int (0 : Int32)), (7, .int (0 : Int32)), (0, .ref p0), (1, .int p1), (2, .ref p2), (3, .ref p3), (4, .ref p4), (5, .ref p5), (6, .ref p6)]) hx hb dL_same_7 hl (by decide) rfl (fun ls hl => ?_)
  refine lv_bipush (v := (-6 : Int32)) hx hb dL_same_9 (by decide) ?_
  refine lv_istore (lv' := [(10, .int (-6 : Int32)), (9, .int (0 : Int32)), (8, .int (0 : Int32)), (7, .int (0 : Int32)), (0, .ref p0), (1, .int p1), (2, .ref p2), (3, .ref p3), (4, .ref p4), (5, .ref p5), (6, .ref p6)]) hx hb dL_same_11 hl (by decide) rfl (fun ls hl => ?_)
  refine lv_bipush (v := (-6 : Int32)) hx hb dL_same_13 (by decide) ?_
  refine lv_istore (lv' := [(11, .int (-6 : Int32)), (10, .int (-6 : Int32)), (9, .int (0 : Int32)), (8, .int (0 : Int32)), (7, .int (0 : Int32)), (0, .ref p0), (1, .int p1), (2, .ref p2), (3, .ref p3), (4, .ref p4), (5, .ref p5), (6, .ref p6)]) hx hb dL_same_15 hl (by decide) rfl (fun ls hl => ?_)
  refine lv_sipush (v := (999 : Int32)) hx hb dL_same_17 (by decide) ?_
  refine lv_istore (lv' := [(12, .int (999 : Int32)), (11, .int (-6 : Int32)), (10, .int (-6 : Int32)), (9, .int (0 : Int32)), (8, .int (0 : Int32)), (7, .int (0 : Int32)), (0, .ref p0), (1, .int p1), (2, .ref p2), (3, .ref p3), (4, .ref p4), (5, .ref p5), (6, .ref p6)]) hx hb dL_same_20 hl (by decide) rfl (fun ls hl => ?_)
  refine lv_iconst (v := (0 : Int32)) hx hb dL_same_22 (by decide) ?_
  refine lv_istore (lv' := [(13, .int (0 : Int32)), (12, .int (999 : Int32)), (11, .int (-6 : Int32)), (10, .int (-6 : Int32)), (9, .int (0 : Int32)), (8, .int (0 : Int32)), (7, .int (0 : Int32)), (0, .ref p0), (1, .int p1), (2, .ref p2), (3, .ref p3), (4, .ref p4), (5, .ref p5), (6, .ref p6)]) hx hb dL_same_23 hl (by decide) rfl (fun ls hl => ?_)
  obtain ⟨k1, h⟩ := h
  exact L25 k1 _ _ _ _ _ _ _ _ _ _ _ _ _ _ _ _ _ _ _ _ h (lv_sub hl [7, 8, 9, 10, 11, 12, 13, 6, 5, 4, 3, 2, 1, 0] rfl) hR hS
