/-! THE HEAP AS A FUNCTION: what is known of the cells of a world is M : address -> content; every contract speaks of all of it, so that a call needs no frame. -/
abbrev k_M : Type := Nat → Option va_E
abbrev k_G : Type := va_G × (Nat → ClassId) × (Nat × Nat × (Nat → Int32))
/-- the law's script: its cell, its length, its ints -/
abbrev kb (G : k_G) : Nat := G.2.2.1
abbrev kL (G : k_G) : Nat := G.2.2.2.1
abbrev kx (G : k_G) : Nat → Int32 := G.2.2.2.2
abbrev kT (G : k_G) : List (ClassId × FieldType) := [(G.2.1 0, .int), (G.2.1 1, .char), (G.2.1 2, .boolean), (G.2.1 3, .byte), (G.2.1 4, .object RX1), (G.2.1 5, .object RX2), (G.2.1 6, .long)]
abbrev kI (G : k_G) (n : Nat) (f : Nat → Int32) : va_E := .inl (G.2.1 0, n, .inl f)
abbrev kC (G : k_G) (n : Nat) (f : Nat → Int32) : va_E := .inl (G.2.1 1, n, .inl f)
abbrev kZ (G : k_G) (n : Nat) (f : Nat → Int32) : va_E := .inl (G.2.1 2, n, .inl f)
abbrev kY (G : k_G) (n : Nat) (f : Nat → Int32) : va_E := .inl (G.2.1 3, n, .inl f)
abbrev kO1 (G : k_G) (n : Nat) (f : Nat → Option Nat) : va_E := .inl (G.2.1 4, n, .inr (.inr (.inr (.inr f))))
abbrev kO2 (G : k_G) (n : Nat) (f : Nat → Option Nat) : va_E := .inl (G.2.1 5, n, .inr (.inr (.inr (.inr f))))
abbrev kJ (G : k_G) (n : Nat) (f : Nat → Int64) : va_E := .inl (G.2.1 6, n, .inr (.inl f))
abbrev kO (c : Nat) (fs : List Value) : va_E := .inr (c, fs)
def kR (G : k_G) (M : k_M) (A : Nat → Prop) (H : Heap) : Prop := ∃ ws : va_W, va_P G.1 vwCl ws H ∧ va_D A ws ∧ ∀ (a : Nat) (e : va_E), M a = some e ↔ ∃ k : Nat, ws[k]? = some (a, e)
def kA (M : k_M) (sz : Nat) : Nat → Prop := fun q => (∃ e, M q = some e) ∨ sz ≤ q
def kD (t : Nat → Nat) : Nat → Value := fun j => .int (nI (48 + t j))
def kSc (G : k_G) (A : Nat → Prop) (U : State) (H : Heap) : Prop := va_X (kb G) (kL G) (kx G) U H ∧ kb G < H.size ∧ ¬ A (kb G)
theorem kSc.moved {G : k_G} {A : Nat → Prop} {u U : State} {H : Heap} (hvm : u.vm.Alike U.vm) (h : kSc G A u H) : kSc G A U H := ⟨h.1.moved hvm, h.2⟩
theorem kSc.kept {G : k_G} {A : Nat → Prop} {U : State} {H H1 : Heap} (hq : ∀ a : Nat, a < H.size → ¬ A a → H1[a]? = H[a]?) (h : kSc G A U H) : kSc G A U H1 := by
  have e := hq _ h.2.1 h.2.2
  refine ⟨h.1.kept e, ?_, h.2.2⟩
  obtain ⟨scr, h1, -⟩ := h.1
  rw [h1] at e
  exact (Array.getElem?_eq_some_iff.mp e).1
theorem kSc.narrow {G : k_G} {A B : Nat → Prop} {U : State} {H : Heap} (hAB : ∀ q, B q → A q) (h : kSc G A U H) : kSc G B U H := ⟨h.1, h.2.1, fun z => h.2.2 (hAB _ z)⟩
def kSt (G : k_G) (A : Nat → Prop) (U : State) (H : Heap) : Prop :=
  va_Z "java/lang/String" "COMPACT_STRINGS" "Z" (.int 1) A U H ∧
  (∃ t : Nat, va_Z "java/lang/Integer" "DigitTens" "[B" (.ref t) A U H ∧ va_T .byte t 100 (kD (fun j => j / 10)) A U H) ∧
  (∃ t : Nat, va_Z "java/lang/Integer" "DigitOnes" "[B" (.ref t) A U H ∧ va_T .byte t 100 (kD (fun j => j % 10)) A U H) ∧
  va_Zq "jdk/internal/util/Preconditions" "SIOOBE_FORMATTER" "Ljava/util/function/BiFunction;" A U H ∧ kSc G A U H
def kNw (U : State) : Prop := va_Nw (.methodLinkNest RX2 30 yX1_init RX3) U ∧ va_Nw (.methodLinkNest RX3 29 yX0_init RX3) U ∧ va_Nw (.methodLinkNest RX0 17 yX1_init RX3) U ∧ va_Nw (.methodLinkNest RX3 36 yX1_init RX3) U ∧ va_AO RX1 U ∧ va_AO RX2 U
def kE (G : k_G) (A : Nat → Prop) (U : State) : Prop := va_K G.1 vwCl (kT G) U ∧ kSt G A U U.heap ∧ kNw U
def kPre (G : k_G) (M : k_M) (sz : Nat) (U : State) : Prop := U.heap.size = sz ∧ kR G M (kA M sz) U.heap ∧ kE G (kA M sz) U
def kB (G : k_G) (M : k_M) (sz : Nat) : k_M → State → Prop := fun M' t => kR G M' (kA M sz) t.heap
theorem kR.dom {G : k_G} {M : k_M} {A : Nat → Prop} {H : Heap} (h : kR G M A H) {a : Nat} {e : va_E} (hM : M a = some e) : A a := by
  obtain ⟨ws, hP, hD, hw⟩ := h
  obtain ⟨k, hk⟩ := (hw _ _).mp hM
  exact hD.2 k _ hk
theorem kR.lt {G : k_G} {M : k_M} {A : Nat → Prop} {H : Heap} (h : kR G M A H) {a : Nat} {e : va_E} (hM : M a = some e) : a < H.size := by
  obtain ⟨ws, hP, hD, hw⟩ := h
  obtain ⟨k, hk⟩ := (hw _ _).mp hM
  exact (hP k _ hk).lt
theorem kR.weak {G : k_G} {M : k_M} {A B : Nat → Prop} {H : Heap} (h : kR G M A H) (hAB : ∀ a, A a → B a) : kR G M B H := by
  obtain ⟨ws, hP, hD, hw⟩ := h
  exact ⟨ws, hP, hD.weaken (fun _ q _ hq => hAB _ hq), hw⟩
theorem kR.self {G : k_G} {M : k_M} {A : Nat → Prop} {H : Heap} (sz : Nat) (h : kR G M A H) : kR G M (kA M sz) H := by
  obtain ⟨ws, hP, hD, hw⟩ := h
  exact ⟨ws, hP, hD.weaken (fun k q hk _ => Or.inl ⟨q.2, (hw _ _).mpr ⟨k, hk⟩⟩), hw⟩
theorem kR.sub {G : k_G} {M : k_M} {A : Nat → Prop} {H H0 : Heap} {locs : List Loc} (h : kR G M A H) (hS : va_S A H0 H locs) (hA : ∀ q, H0.size ≤ q → A q) : ∀ q, kA M H.size q → A q := by
  intro q hq
  rcases hq with ⟨e, he⟩ | hq
  · exact h.dom he
  · exact hA q (Nat.le_trans hS.1 hq)
theorem kA.new {M : k_M} {sz : Nat} : ∀ q, sz ≤ q → kA M sz q := fun _ h => Or.inr h
theorem kup_same {M : k_M} {a : Nat} {v : Option va_E} : va_up M a v a = v := if_pos rfl
theorem kup_ne {M : k_M} {a b : Nat} {v : Option va_E} (h : b ≠ a) : va_up M a v b = M b := if_neg h
theorem k_setw {A : Nat → Prop} {M : k_M} {ws : va_W} {q0 a : Nat} {e0 : va_E} (e1 : va_E) (hD : va_D A ws) (hw : ∀ (a : Nat) (e : va_E), M a = some e ↔ ∃ k : Nat, ws[k]? = some (a, e)) (hq : ws[q0]? = some (a, e0)) :
    ∀ (b : Nat) (e : va_E), va_up M a (some e1) b = some e ↔ ∃ k : Nat, (ws.set q0 (a, e1))[k]? = some (b, e) := by
  have hl := (List.getElem?_eq_some_iff.mp hq).1
  intro b e
  by_cases hb : b = a
  · subst hb
    rw [kup_same]
    constructor
    · intro h
      cases h
      exact ⟨q0, by rw [List.getElem?_set_self hl]⟩
    · rintro ⟨k, hk⟩
      by_cases hkq : k = q0
      · subst hkq
        rw [List.getElem?_set_self hl] at hk
        cases hk
        rfl
      · rw [List.getElem?_set_ne (Ne.symm hkq)] at hk
        exact absurd (hD.1 k q0 _ _ hk hq rfl) hkq
  · rw [kup_ne hb, hw]
    constructor
    · rintro ⟨k, hk⟩
      refine ⟨k, ?_⟩
      have hkq : k ≠ q0 := by
        intro z
        subst z
        rw [hq] at hk
        cases hk
        exact hb rfl
      rw [List.getElem?_set_ne (Ne.symm hkq)]
      exact hk
    · rintro ⟨k, hk⟩
      by_cases hkq : k = q0
      · subst hkq
        rw [List.getElem?_set_self hl] at hk
        cases hk
        exact absurd rfl hb
      · rw [List.getElem?_set_ne (Ne.symm hkq)] at hk
        exact ⟨k, hk⟩
theorem k_pushw {A : Nat → Prop} {M : k_M} {ws : va_W} {a : Nat} {e1 : va_E} (hD : va_D A (ws ++ [(a, e1)])) (hw : ∀ (a : Nat) (e : va_E), M a = some e ↔ ∃ k : Nat, ws[k]? = some (a, e)) :
    M a = none ∧ ∀ (b : Nat) (e : va_E), va_up M a (some e1) b = some e ↔ ∃ k : Nat, (ws ++ [(a, e1)])[k]? = some (b, e) := by
  have hlast : (ws ++ [(a, e1)])[ws.length]? = some (a, e1) := by simp
  have hfr : ∀ (k : Nat) (e : va_E), ws[k]? ≠ some (a, e) := by
    intro k e hk
    have hl := (List.getElem?_eq_some_iff.mp hk).1
    have h1 : (ws ++ [(a, e1)])[k]? = some (a, e) := by rw [List.getElem?_append_left hl]; exact hk
    have := hD.1 k ws.length _ _ h1 hlast rfl
    omega
  refine ⟨?_, ?_⟩
  · cases hM : M a with
    | none => rfl
    | some e =>
      obtain ⟨k, hk⟩ := (hw _ _).mp hM
      exact absurd hk (hfr k e)
  · intro b e
    by_cases hb : b = a
    · subst hb
      rw [kup_same]
      constructor
      · intro h
        cases h
        exact ⟨_, hlast⟩
      · rintro ⟨k, hk⟩
        have := hD.1 k ws.length _ _ hk hlast rfl
        subst this
        rw [hlast] at hk
        cases hk
        rfl
    · rw [kup_ne hb, hw]
      constructor
      · rintro ⟨k, hk⟩
        exact ⟨k, by rw [List.getElem?_append_left (List.getElem?_eq_some_iff.mp hk).1]; exact hk⟩
      · rintro ⟨k, hk⟩
        by_cases hl : k < ws.length
        · rw [List.getElem?_append_left hl] at hk
          exact ⟨k, hk⟩
        · rw [List.getElem?_append_right (by omega)] at hk
          have hz : k - ws.length < 1 := (List.getElem?_eq_some_iff.mp hk).1
          have hk0 : k = ws.length := by omega
          subst hk0
          rw [Nat.sub_self] at hk
          cases hk
          exact absurd rfl hb
theorem kSt.moved {G : k_G} {A : Nat → Prop} {u U : State} {H : Heap} (hvm : u.vm.Alike U.vm) (h : kSt G A u H) : kSt G A U H := by
  obtain ⟨h1, ⟨t2, h2, h3⟩, ⟨t4, h4, h5⟩, h6⟩ := h
  exact ⟨h1.moved hvm, ⟨t2, h2.moved hvm, h3.moved hvm⟩, ⟨t4, h4.moved hvm, h5.moved hvm⟩, ⟨h6.1.moved hvm, h6.2.moved hvm⟩⟩
theorem kSt.kept {G : k_G} {A : Nat → Prop} {U : State} {H H1 : Heap} (hq : ∀ a : Nat, a < H.size → ¬ A a → H1[a]? = H[a]?) (h : kSt G A U H) : kSt G A U H1 := by
  obtain ⟨h1, ⟨t2, h2, h3⟩, ⟨t4, h4, h5⟩, h6⟩ := h
  exact ⟨h1.kept hq, ⟨t2, h2.kept hq, h3.kept hq⟩, ⟨t4, h4.kept hq, h5.kept hq⟩, ⟨h6.1.kept hq, h6.2.kept hq⟩⟩
theorem kSt.narrow {G : k_G} {A B : Nat → Prop} {U : State} {H : Heap} (hAB : ∀ q, B q → A q) (h : kSt G A U H) : kSt G B U H := by
  obtain ⟨h1, ⟨t2, h2, h3⟩, ⟨t4, h4, h5⟩, h6⟩ := h
  exact ⟨h1.narrow hAB, ⟨t2, h2.narrow hAB, h3.narrow hAB⟩, ⟨t4, h4.narrow hAB, h5.narrow hAB⟩, ⟨h6.1.narrow hAB, h6.2.narrow hAB⟩⟩
theorem kNw.same {u U : State} (h : u.vm = U.vm) (hN : kNw u) : kNw U := by
  obtain ⟨h1, h2, h3, h4, h5, h6⟩ := hN
  exact ⟨h1.same rfl h, h2.same rfl h, h3.same rfl h, h4.same rfl h, h5.moved (by rw [h]; exact Vm.Alike.refl _), h6.moved (by rw [h]; exact Vm.Alike.refl _)⟩
theorem kNw.warm {s U : State} (hW : s.WarmedH U.vm) (hN : kNw s) : kNw U := by
  obtain ⟨h1, h2, h3, h4, h5, h6⟩ := hN
  exact ⟨h1.warmM hW, h2.warmM hW, h3.warmM hW, h4.warmM hW, h5.moved hW.alike, h6.moved hW.alike⟩
theorem k_blind {G : k_G} {M : k_M} {sz : Nat} {av : List Value} : FrameBlind (va_Pc av (kPre G M sz)) := fun a U g mk q => by
  obtain ⟨q0, q1, qR, qK, qZ, qN⟩ := q
  exact ⟨q0, q1, qR, va_K.moved (u := U) (U := U.calling g mk a) (Vm.Alike.refl U.vm) qK, kSt.moved (u := U) (U := U.calling g mk a) (Vm.Alike.refl U.vm) qZ, kNw.same (u := U) (U := U.calling g mk a) rfl qN⟩
section KIT
variable {p : Program} {l : Launch} {e : Env} {R : Room} {s : State} {m : MethodId} {args : Array Value} {below : List Frame} {meth : Method} {c : Code} {H H0 : Heap} {locs : List Loc} {cells slots : Nat} {Q : State → Prop}
variable {pc : Nat} {ls : Array Slot} {rest st0 : List Value} {A : Nat → Prop} {G : k_G} {M : k_M} {cc : ByteArray} {a : Nat}
theorem k_pre {av : List Value} (hR : kR G M A H) (hS : va_S A s.heap H locs) (hA : ∀ q, s.heap.size ≤ q → A q) (hE : kE G A s) : ∀ U : State, U.heap = H → s.WarmedH U.vm → va_Pc av (kPre G M H.size) av.toArray U := by
  intro U hU hW
  obtain ⟨hK, hZ, hN⟩ := hE
  refine ⟨rfl, by rw [hU], by rw [hU]; exact hR.self _, va_K.moved hW.alike hK, ?_, hN.warm hW⟩
  rw [hU]
  exact ((hZ.kept (fun q h1 h2 => hS.2.1 q h1 h2)).narrow (hR.sub hS hA)).moved hW.alike
theorem k_preS {As : List Value} (hR : kR G M A H) (hS : va_S A s.heap H locs) (hA : ∀ q, s.heap.size ≤ q → A q) (hE : kE G A s) : PreS s H (va_Pc As (kPre G M H.size)) As := ⟨k_blind, k_pre hR hS hA hE⟩
theorem k_preV {As : List Value} {b ci : Nat} {q : vw_C} {fs : List Value} (he : M b = some (.inr (ci, fs))) (hc : vwCl[ci]? = some q) (hR : kR G M A H) (hS : va_S A s.heap H locs) (hA : ∀ q, s.heap.size ≤ q → A q) (hE : kE G A s) : PreV s H q.1 b (va_Pc (.ref b :: As) (kPre G M H.size)) As := by
  obtain ⟨ws, hP, hD, hw⟩ := id hR
  obtain ⟨q0, hq⟩ := (hw _ _).mp he
  exact ⟨k_blind, va_recv hE.1 hP hc hq, k_pre hR hS hA hE⟩
variable {mc ms : Nat} {av : Array Value}
theorem k_calli {post : Int32 → k_M → Prop} (hr : va_Run p l e R s m args below meth c H locs cells slots mc ms (F0 m pc ls st0) rest (va_Qi post (kB G M H.size) (kA M H.size) av) (kA M H.size)) (hR : kR G M A H) (hS : va_S A H0 H locs) (hA : ∀ q, H0.size ≤ q → A q)
    (kk : ∀ (r : Int32) (M1 : k_M) (H1 : Heap) (locs1 : List Loc), post r M1 → kR G M1 A H1 → va_S A H0 H1 locs1 → W p l e R s m args below meth c H1 locs1 (cells + mc) (slots + ms) Q (F0 m (pc + 3) ls (.int r :: rest))) : W p l e R s m args below meth c H locs cells slots Q (F0 m pc ls st0) := by
  have hs := hR.sub hS hA
  exact va_calli hr hS (fun q _ h => hs q h) hs (fun r u t H1 locs1 ht hvm hw hB hz1 hk1 hS1 => kk r u H1 locs1 hw (by rw [← ht]; exact hB.weak hs) hS1)
theorem k_callv {post : k_M → Prop} (hr : va_Run p l e R s m args below meth c H locs cells slots mc ms (F0 m pc ls st0) rest (va_Qv post (kB G M H.size) (kA M H.size) av) (kA M H.size)) (hR : kR G M A H) (hS : va_S A H0 H locs) (hA : ∀ q, H0.size ≤ q → A q)
    (kk : ∀ (M1 : k_M) (H1 : Heap) (locs1 : List Loc), post M1 → kR G M1 A H1 → va_S A H0 H1 locs1 → W p l e R s m args below meth c H1 locs1 (cells + mc) (slots + ms) Q (F0 m (pc + 3) ls rest)) : W p l e R s m args below meth c H locs cells slots Q (F0 m pc ls st0) := by
  have hs := hR.sub hS hA
  exact va_callv hr hS (fun q _ h => hs q h) hs (fun u t H1 locs1 ht hvm hw hB hz1 hk1 hS1 => kk u H1 locs1 hw (by rw [← ht]; exact hB.weak hs) hS1)
theorem k_callq {post : Option Nat → k_M → Prop} (hr : va_Run p l e R s m args below meth c H locs cells slots mc ms (F0 m pc ls st0) rest (va_Qq post (kB G M H.size) (kA M H.size) av) (kA M H.size)) (hR : kR G M A H) (hS : va_S A H0 H locs) (hA : ∀ q, H0.size ≤ q → A q)
    (kk : ∀ (r : Option Nat) (M1 : k_M) (H1 : Heap) (locs1 : List Loc), post r M1 → kR G M1 A H1 → va_S A H0 H1 locs1 → W p l e R s m args below meth c H1 locs1 (cells + mc) (slots + ms) Q (F0 m (pc + 3) ls (va_rf r :: rest))) : W p l e R s m args below meth c H locs cells slots Q (F0 m pc ls st0) := by
  have hs := hR.sub hS hA
  exact va_callq hr hS (fun q _ h => hs q h) hs (fun r u t H1 locs1 ht hvm hw hB hz1 hk1 hS1 => kk r u H1 locs1 hw (by rw [← ht]; exact hB.weak hs) hS1)
/-- a call that makes nothing -/
theorem k_calli0 {post : Int32 → k_M → Prop} (hr : va_Run p l e R s m args below meth c H locs cells slots 0 0 (F0 m pc ls st0) rest (va_Qi post (kB G M H.size) (kA M H.size) av) (kA M H.size)) (hR : kR G M A H) (hS : va_S A H0 H locs) (hA : ∀ q, H0.size ≤ q → A q)
    (kk : ∀ (r : Int32) (M1 : k_M) (H1 : Heap) (locs1 : List Loc), post r M1 → kR G M1 A H1 → va_S A H0 H1 locs1 → W p l e R s m args below meth c H1 locs1 cells slots Q (F0 m (pc + 3) ls (.int r :: rest))) : W p l e R s m args below meth c H locs cells slots Q (F0 m pc ls st0) := k_calli hr hR hS hA kk
theorem k_callv0 {post : k_M → Prop} (hr : va_Run p l e R s m args below meth c H locs cells slots 0 0 (F0 m pc ls st0) rest (va_Qv post (kB G M H.size) (kA M H.size) av) (kA M H.size)) (hR : kR G M A H) (hS : va_S A H0 H locs) (hA : ∀ q, H0.size ≤ q → A q)
    (kk : ∀ (M1 : k_M) (H1 : Heap) (locs1 : List Loc), post M1 → kR G M1 A H1 → va_S A H0 H1 locs1 → W p l e R s m args below meth c H1 locs1 cells slots Q (F0 m (pc + 3) ls rest)) : W p l e R s m args below meth c H locs cells slots Q (F0 m pc ls st0) := k_callv hr hR hS hA kk
theorem k_callq0 {post : Option Nat → k_M → Prop} (hr : va_Run p l e R s m args below meth c H locs cells slots 0 0 (F0 m pc ls st0) rest (va_Qq post (kB G M H.size) (kA M H.size) av) (kA M H.size)) (hR : kR G M A H) (hS : va_S A H0 H locs) (hA : ∀ q, H0.size ≤ q → A q)
    (kk : ∀ (r : Option Nat) (M1 : k_M) (H1 : Heap) (locs1 : List Loc), post r M1 → kR G M1 A H1 → va_S A H0 H1 locs1 → W p l e R s m args below meth c H1 locs1 cells slots Q (F0 m (pc + 3) ls (va_rf r :: rest))) : W p l e R s m args below meth c H locs cells slots Q (F0 m pc ls st0) := k_callq hr hR hS hA kk
/-- fields -/
theorem k_get (hexec : p.tables.exec = Jvm.exec) (hb : c.code = cc) {own ref C : String} {T : u_T} {N ci index : Nat} {Ts : List Cond} (hts : ∀ w ∈ Ts, w.before args s = true) (hin : ∀ w ∈ u_ws C T N, w ∈ Ts) (hown : s.vm.findClass own = some m.cls) (hK : va_K G.1 vwCl (kT G) s) (hR : kR G M A H) {fs : List Value} (he : M a = some (.inr (ci, fs))) (hc : vwCl[ci]? = some (C, T, N)) (k : Nat) (hk : k < N) (hlink : (Cond.fieldLink own index ref (T k).2.1 (T k).2.2.1).before args s = true) (hsame : ∀ x, s.fieldFound? (T k).1 (T k).2.1 (T k).2.2.1 = some x → s.fieldFound? ref (T k).2.1 (T k).2.2.1 = some x) {v : Value} (hv : fs[k]? = some v) (hdg : decode cc pc = .ok (.getfield index, 3))
    (kk : W p l e R s m args below meth c H locs cells slots Q (F0 m (pc + 3) ls (v :: rest))) : W p l e R s m args below meth c H locs cells slots Q (F0 m pc ls (.ref a :: rest)) := by
  obtain ⟨ws, hP, hD, hw⟩ := hR
  obtain ⟨q0, hq⟩ := (hw _ _).mp he
  exact va_get hexec hb hts hin hown hK hP q0 hq hc k hk hlink hsame hv hdg kk
theorem k_getN (hexec : p.tables.exec = Jvm.exec) (hb : c.code = cc) {own ref C host : String} {T : u_T} {N ci index : Nat} {Ts : List Cond} (hts : ∀ w ∈ Ts, w.before args s = true) (hin : ∀ w ∈ u_ws C T N, w ∈ Ts) (hown : s.vm.findClass own = some m.cls) (hK : va_K G.1 vwCl (kT G) s) (hR : kR G M A H) {fs : List Value} (he : M a = some (.inr (ci, fs))) (hc : vwCl[ci]? = some (C, T, N)) (k : Nat) (hk : k < N) (hlink : (Cond.fieldLinkNest own index ref (T k).2.1 (T k).2.2.1 host).before args s = true) (hsame : ∀ x, s.fieldFound? (T k).1 (T k).2.1 (T k).2.2.1 = some x → s.fieldFound? ref (T k).2.1 (T k).2.2.1 = some x) {v : Value} (hv : fs[k]? = some v) (hdg : decode cc pc = .ok (.getfield index, 3))
    (kk : W p l e R s m args below meth c H locs cells slots Q (F0 m (pc + 3) ls (v :: rest))) : W p l e R s m args below meth c H locs cells slots Q (F0 m pc ls (.ref a :: rest)) := by
  obtain ⟨ws, hP, hD, hw⟩ := hR
  obtain ⟨q0, hq⟩ := (hw _ _).mp he
  exact va_getN hexec hb hts hin hown hK hP q0 hq hc k hk hlink hsame hv hdg kk
theorem k_put (hexec : p.tables.exec = Jvm.exec) (hb : c.code = cc) {own ref C : String} {T : u_T} {N ci index : Nat} {Ts : List Cond} (hts : ∀ w ∈ Ts, w.before args s = true) (hin : ∀ w ∈ u_ws C T N, w ∈ Ts) (ty0 : Nat → FieldType) (hty : ∀ k, k < N → parseFieldDescriptor (T k).2.2.1 = some (ty0 k)) (hnm : ∀ a, a < N → ∀ b, b < N → a ≠ b → (T a).2.1 ≠ (T b).2.1) (hown : s.vm.findClass own = some m.cls) (hK : va_K G.1 vwCl (kT G) s) (hR : kR G M A H) (hS0 : va_S A H0 H locs) {fs : List Value} (he : M a = some (.inr (ci, fs))) (hc : vwCl[ci]? = some (C, T, N)) (k : Nat) (hk : k < N) (hlink : (Cond.fieldLink own index ref (T k).2.1 (T k).2.2.1).before args s = true) (hsame : ∀ x, s.fieldFound? (T k).1 (T k).2.1 (T k).2.2.1 = some x → s.fieldFound? ref (T k).2.1 (T k).2.2.1 = some x) (hfin : (T k).2.2.2 = false) {ty : FieldType} {v : Value} (hd : parseFieldDescriptor (T k).2.2.1 = some ty) (hn : narrow ty v = v) (hfit : fits ty v = true) (hl : k < fs.length)
    (hdg : decode cc pc = .ok (.putfield index, 3)) (kk : ∀ (H1 : Heap) (locs1 : List Loc), kR G (va_up M a (some (.inr (ci, fs.set k v)))) A H1 → va_S A H0 H1 locs1 → W p l e R s m args below meth c H1 locs1 cells slots Q (F0 m (pc + 3) ls rest)) : W p l e R s m args below meth c H locs cells slots Q (F0 m pc ls (v :: .ref a :: rest)) := by
  obtain ⟨ws, hP, hD, hw⟩ := hR
  obtain ⟨q0, hq⟩ := (hw _ _).mp he
  exact va_put hexec hb hts hin ty0 hty hnm hown hK hP hD hS0 q0 hq hc k hk hlink hsame hfin hd hn hfit hl hdg (fun H1 locs1 hP1 hD1 hS1 => kk H1 locs1 ⟨_, hP1, hD1, k_setw _ hD hw hq⟩ hS1)
theorem k_putN (hexec : p.tables.exec = Jvm.exec) (hb : c.code = cc) {own ref C host : String} {T : u_T} {N ci index : Nat} {Ts : List Cond} (hts : ∀ w ∈ Ts, w.before args s = true) (hin : ∀ w ∈ u_ws C T N, w ∈ Ts) (ty0 : Nat → FieldType) (hty : ∀ k, k < N → parseFieldDescriptor (T k).2.2.1 = some (ty0 k)) (hnm : ∀ a, a < N → ∀ b, b < N → a ≠ b → (T a).2.1 ≠ (T b).2.1) (hown : s.vm.findClass own = some m.cls) (hK : va_K G.1 vwCl (kT G) s) (hR : kR G M A H) (hS0 : va_S A H0 H locs) {fs : List Value} (he : M a = some (.inr (ci, fs))) (hc : vwCl[ci]? = some (C, T, N)) (k : Nat) (hk : k < N) (hlink : (Cond.fieldLinkNest own index ref (T k).2.1 (T k).2.2.1 host).before args s = true) (hsame : ∀ x, s.fieldFound? (T k).1 (T k).2.1 (T k).2.2.1 = some x → s.fieldFound? ref (T k).2.1 (T k).2.2.1 = some x) (hfin : (T k).2.2.2 = false) {ty : FieldType} {v : Value} (hd : parseFieldDescriptor (T k).2.2.1 = some ty) (hn : narrow ty v = v) (hfit : fits ty v = true) (hl : k < fs.length)
    (hdg : decode cc pc = .ok (.putfield index, 3)) (kk : ∀ (H1 : Heap) (locs1 : List Loc), kR G (va_up M a (some (.inr (ci, fs.set k v)))) A H1 → va_S A H0 H1 locs1 → W p l e R s m args below meth c H1 locs1 cells slots Q (F0 m (pc + 3) ls rest)) : W p l e R s m args below meth c H locs cells slots Q (F0 m pc ls (v :: .ref a :: rest)) := by
  obtain ⟨ws, hP, hD, hw⟩ := hR
  obtain ⟨q0, hq⟩ := (hw _ _).mp he
  exact va_putN hexec hb hts hin ty0 hty hnm hown hK hP hD hS0 q0 hq hc k hk hlink hsame hfin hd hn hfit hl hdg (fun H1 locs1 hP1 hD1 hS1 => kk H1 locs1 ⟨_, hP1, hD1, k_setw _ hD hw hq⟩ hS1)
theorem k_putF (hexec : p.tables.exec = Jvm.exec) (hb : c.code = cc) {own ref C : String} {T : u_T} {N ci index : Nat} {Ts : List Cond} (hts : ∀ w ∈ Ts, w.before args s = true) (hin : ∀ w ∈ u_ws C T N, w ∈ Ts) (ty0 : Nat → FieldType) (hty : ∀ k, k < N → parseFieldDescriptor (T k).2.2.1 = some (ty0 k)) (hnm : ∀ a, a < N → ∀ b, b < N → a ≠ b → (T a).2.1 ≠ (T b).2.1) (hown : s.vm.findClass own = some m.cls) (hK : va_K G.1 vwCl (kT G) s) (hR : kR G M A H) (hS0 : va_S A H0 H locs) {fs : List Value} (he : M a = some (.inr (ci, fs))) (hc : vwCl[ci]? = some (C, T, N)) (k : Nat) (hk : k < N) (hlink : (Cond.fieldLink own index ref (T k).2.1 (T k).2.2.1).before args s = true) (hsame : ∀ x, s.fieldFound? (T k).1 (T k).2.1 (T k).2.2.1 = some x → s.fieldFound? ref (T k).2.1 (T k).2.2.1 = some x) (hfin : (T k).2.2.2 = true) (hin2 : meth.name = "<init>") (hdecl : (T k).1 = own) {ty : FieldType} {v : Value} (hd : parseFieldDescriptor (T k).2.2.1 = some ty) (hn : narrow ty v = v) (hfit : fits ty v = true) (hl : k < fs.length)
    (hdg : decode cc pc = .ok (.putfield index, 3)) (kk : ∀ (H1 : Heap) (locs1 : List Loc), kR G (va_up M a (some (.inr (ci, fs.set k v)))) A H1 → va_S A H0 H1 locs1 → W p l e R s m args below meth c H1 locs1 cells slots Q (F0 m (pc + 3) ls rest)) : W p l e R s m args below meth c H locs cells slots Q (F0 m pc ls (v :: .ref a :: rest)) := by
  obtain ⟨ws, hP, hD, hw⟩ := hR
  obtain ⟨q0, hq⟩ := (hw _ _).mp he
  exact va_putF hexec hb hts hin ty0 hty hnm hown hK hP hD hS0 q0 hq hc k hk hlink hsame hfin hin2 hdecl hd hn hfit hl hdg (fun H1 locs1 hP1 hD1 hS1 => kk H1 locs1 ⟨_, hP1, hD1, k_setw _ hD hw hq⟩ hS1)
/-- arrays: reads -/
theorem k_iald (hexec : p.tables.exec = Jvm.exec) (hb : c.code = cc) (hK : va_K G.1 vwCl (kT G) s) (hR : kR G M A H) {n : Nat} {f : Nat → Int32} (ha : M a = some (kI G n f)) {i : Int32} (hin : vp_in i n) (hdg : decode cc pc = .ok (.iaload, 1))
    (kk : W p l e R s m args below meth c H locs cells slots Q (F0 m (pc + 1) ls (.int (f i.toNatClampNeg) :: rest))) : W p l e R s m args below meth c H locs cells slots Q (F0 m pc ls (.int i :: .ref a :: rest)) := by
  obtain ⟨ws, hP, hD, hw⟩ := hR
  obtain ⟨q0, hq⟩ := (hw _ _).mp ha
  exact va_iald hexec hb hK hP q0 0 hq rfl hin hdg kk
theorem k_cald (hexec : p.tables.exec = Jvm.exec) (hb : c.code = cc) (hK : va_K G.1 vwCl (kT G) s) (hR : kR G M A H) {n : Nat} {f : Nat → Int32} (ha : M a = some (kC G n f)) {i : Int32} (hin : vp_in i n) (hdg : decode cc pc = .ok (.caload, 1))
    (kk : W p l e R s m args below meth c H locs cells slots Q (F0 m (pc + 1) ls (.int (f i.toNatClampNeg) :: rest))) : W p l e R s m args below meth c H locs cells slots Q (F0 m pc ls (.int i :: .ref a :: rest)) := by
  obtain ⟨ws, hP, hD, hw⟩ := hR
  obtain ⟨q0, hq⟩ := (hw _ _).mp ha
  exact va_cald hexec hb hK hP q0 1 hq rfl hin hdg kk
theorem k_zald (hexec : p.tables.exec = Jvm.exec) (hb : c.code = cc) (hK : va_K G.1 vwCl (kT G) s) (hR : kR G M A H) {n : Nat} {f : Nat → Int32} (ha : M a = some (kZ G n f)) {i : Int32} (hin : vp_in i n) (hdg : decode cc pc = .ok (.baload, 1))
    (kk : W p l e R s m args below meth c H locs cells slots Q (F0 m (pc + 1) ls (.int (f i.toNatClampNeg) :: rest))) : W p l e R s m args below meth c H locs cells slots Q (F0 m pc ls (.int i :: .ref a :: rest)) := by
  obtain ⟨ws, hP, hD, hw⟩ := hR
  obtain ⟨q0, hq⟩ := (hw _ _).mp ha
  exact va_zald hexec hb hK hP q0 2 hq rfl hin hdg kk
theorem k_bald (hexec : p.tables.exec = Jvm.exec) (hb : c.code = cc) (hK : va_K G.1 vwCl (kT G) s) (hR : kR G M A H) {n : Nat} {f : Nat → Int32} (ha : M a = some (kY G n f)) {i : Int32} (hin : vp_in i n) (hdg : decode cc pc = .ok (.baload, 1))
    (kk : W p l e R s m args below meth c H locs cells slots Q (F0 m (pc + 1) ls (.int (f i.toNatClampNeg) :: rest))) : W p l e R s m args below meth c H locs cells slots Q (F0 m pc ls (.int i :: .ref a :: rest)) := by
  obtain ⟨ws, hP, hD, hw⟩ := hR
  obtain ⟨q0, hq⟩ := (hw _ _).mp ha
  exact va_bald hexec hb hK hP q0 3 hq rfl hin hdg kk
theorem k_ald1 (hexec : p.tables.exec = Jvm.exec) (hb : c.code = cc) (hK : va_K G.1 vwCl (kT G) s) (hR : kR G M A H) {n : Nat} {f : Nat → Option Nat} (ha : M a = some (kO1 G n f)) {i : Int32} {v : Nat} (hin : vp_in i n) (hv : f i.toNatClampNeg = some v) (hdg : decode cc pc = .ok (.aaload, 1))
    (kk : W p l e R s m args below meth c H locs cells slots Q (F0 m (pc + 1) ls (.ref v :: rest))) : W p l e R s m args below meth c H locs cells slots Q (F0 m pc ls (.int i :: .ref a :: rest)) := by
  obtain ⟨ws, hP, hD, hw⟩ := hR
  obtain ⟨q0, hq⟩ := (hw _ _).mp ha
  exact va_aldq hexec hb hK hP q0 4 hq rfl hin hdg (by rw [hv]; exact kk)
theorem k_ald2 (hexec : p.tables.exec = Jvm.exec) (hb : c.code = cc) (hK : va_K G.1 vwCl (kT G) s) (hR : kR G M A H) {n : Nat} {f : Nat → Option Nat} (ha : M a = some (kO2 G n f)) {i : Int32} {v : Nat} (hin : vp_in i n) (hv : f i.toNatClampNeg = some v) (hdg : decode cc pc = .ok (.aaload, 1))
    (kk : W p l e R s m args below meth c H locs cells slots Q (F0 m (pc + 1) ls (.ref v :: rest))) : W p l e R s m args below meth c H locs cells slots Q (F0 m pc ls (.int i :: .ref a :: rest)) := by
  obtain ⟨ws, hP, hD, hw⟩ := hR
  obtain ⟨q0, hq⟩ := (hw _ _).mp ha
  exact va_aldq hexec hb hK hP q0 5 hq rfl hin hdg (by rw [hv]; exact kk)
theorem k_alen (hexec : p.tables.exec = Jvm.exec) (hb : c.code = cc) (hK : va_K G.1 vwCl (kT G) s) (hR : kR G M A H) (t0 : Nat) {cA : ClassId} {ty : FieldType} {x : vp_A} (ha : M a = some (.inl (cA, x))) (ht : (kT G)[t0]? = some (cA, ty)) (hdg : decode cc pc = .ok (.arraylength, 1))
    (kk : W p l e R s m args below meth c H locs cells slots Q (F0 m (pc + 1) ls (.int (nI x.1) :: rest))) : W p l e R s m args below meth c H locs cells slots Q (F0 m pc ls (.ref a :: rest)) := by
  obtain ⟨ws, hP, hD, hw⟩ := hR
  obtain ⟨q0, hq⟩ := (hw _ _).mp ha
  exact va_alen hexec hb hK hP q0 t0 hq ht rfl hdg kk
theorem k_lald (hexec : p.tables.exec = Jvm.exec) (hb : c.code = cc) (hK : va_K G.1 vwCl (kT G) s) (hR : kR G M A H) {n : Nat} {f : Nat → Int64} (ha : M a = some (kJ G n f)) {i : Int32} (hin : vp_in i n) (hdg : decode cc pc = .ok (.laload, 1))
    (kk : W p l e R s m args below meth c H locs cells slots Q (F0 m (pc + 1) ls (.long (f i.toNatClampNeg) :: rest))) : W p l e R s m args below meth c H locs cells slots Q (F0 m pc ls (.int i :: .ref a :: rest)) := by
  obtain ⟨ws, hP, hD, hw⟩ := hR
  obtain ⟨q0, hq⟩ := (hw _ _).mp ha
  exact va_lald hexec hb hK hP q0 6 hq rfl hin hdg kk
/-- the script -/
theorem k_sld {s : State} {H : Heap} (hexec : p.tables.exec = Jvm.exec) (hb : c.code = cc) (hE : kE G A s) (hS : va_S A s.heap H locs) {i : Int32} (hin : vp_in i (kL G)) (hdg : decode cc pc = .ok (.iaload, 1))
    (kk : W p l e R s m args below meth c H locs cells slots Q (F0 m (pc + 1) ls (.int (kx G i.toNatClampNeg) :: rest))) : W p l e R s m args below meth c H locs cells slots Q (F0 m pc ls (.int i :: .ref (kb G) :: rest)) :=
  va_sld hexec hb hE.2.1.2.2.2.2.1 hE.2.1.2.2.2.2.2.1 hE.2.1.2.2.2.2.2.2 hS hin hdg kk
theorem k_slen {s : State} {H : Heap} (hexec : p.tables.exec = Jvm.exec) (hb : c.code = cc) (hE : kE G A s) (hS : va_S A s.heap H locs) (hdg : decode cc pc = .ok (.arraylength, 1))
    (kk : W p l e R s m args below meth c H locs cells slots Q (F0 m (pc + 1) ls (.int (nI (kL G)) :: rest))) : W p l e R s m args below meth c H locs cells slots Q (F0 m pc ls (.ref (kb G) :: rest)) :=
  va_slen hexec hb hE.2.1.2.2.2.2.1 hE.2.1.2.2.2.2.2.1 hE.2.1.2.2.2.2.2.2 hS hdg kk
/-- arrays: writes -/
theorem k_iast (hexec : p.tables.exec = Jvm.exec) (hb : c.code = cc) (hK : va_K G.1 vwCl (kT G) s) (hR : kR G M A H) (hS : va_S A H0 H locs) {n : Nat} {f : Nat → Int32} (ha : M a = some (kI G n f)) {i x : Int32} (hin : vp_in i n) (hdg : decode cc pc = .ok (.iastore, 1))
    (kk : ∀ (H1 : Heap) (locs1 : List Loc), kR G (va_up M a (some (kI G n (upd f i.toNatClampNeg x)))) A H1 → va_S A H0 H1 locs1 → W p l e R s m args below meth c H1 locs1 cells slots Q (F0 m (pc + 1) ls rest)) : W p l e R s m args below meth c H locs cells slots Q (F0 m pc ls (.int x :: .int i :: .ref a :: rest)) := by
  obtain ⟨ws, hP, hD, hw⟩ := hR
  obtain ⟨q0, hq⟩ := (hw _ _).mp ha
  exact va_iast hexec hb hK hP hD hS q0 0 hq rfl hin hdg (fun H1 locs1 hP1 hD1 hS1 => kk H1 locs1 ⟨_, hP1, hD1, k_setw _ hD hw hq⟩ hS1)
theorem k_last (hexec : p.tables.exec = Jvm.exec) (hb : c.code = cc) (hK : va_K G.1 vwCl (kT G) s) (hR : kR G M A H) (hS : va_S A H0 H locs) {n : Nat} {f : Nat → Int64} (ha : M a = some (kJ G n f)) {i : Int32} {x : Int64} (hin : vp_in i n) (hdg : decode cc pc = .ok (.lastore, 1))
    (kk : ∀ (H1 : Heap) (locs1 : List Loc), kR G (va_up M a (some (kJ G n (vp_updL f i.toNatClampNeg x)))) A H1 → va_S A H0 H1 locs1 → W p l e R s m args below meth c H1 locs1 cells slots Q (F0 m (pc + 1) ls rest)) : W p l e R s m args below meth c H locs cells slots Q (F0 m pc ls (.long x :: .int i :: .ref a :: rest)) := by
  obtain ⟨ws, hP, hD, hw⟩ := hR
  obtain ⟨q0, hq⟩ := (hw _ _).mp ha
  exact va_last hexec hb hK hP hD hS q0 6 hq rfl hin hdg (fun H1 locs1 hP1 hD1 hS1 => kk H1 locs1 ⟨_, hP1, hD1, k_setw _ hD hw hq⟩ hS1)
theorem k_cast (hexec : p.tables.exec = Jvm.exec) (hb : c.code = cc) (hK : va_K G.1 vwCl (kT G) s) (hR : kR G M A H) (hS : va_S A H0 H locs) {n : Nat} {f : Nat → Int32} (ha : M a = some (kC G n f)) {i x : Int32} (hin : vp_in i n) (hdg : decode cc pc = .ok (.castore, 1))
    (kk : ∀ (H1 : Heap) (locs1 : List Loc), kR G (va_up M a (some (kC G n (upd f i.toNatClampNeg (vp_nar .char x))))) A H1 → va_S A H0 H1 locs1 → W p l e R s m args below meth c H1 locs1 cells slots Q (F0 m (pc + 1) ls rest)) : W p l e R s m args below meth c H locs cells slots Q (F0 m pc ls (.int x :: .int i :: .ref a :: rest)) := by
  obtain ⟨ws, hP, hD, hw⟩ := hR
  obtain ⟨q0, hq⟩ := (hw _ _).mp ha
  exact va_cast hexec hb hK hP hD hS q0 1 hq rfl hin hdg (fun H1 locs1 hP1 hD1 hS1 => kk H1 locs1 ⟨_, hP1, hD1, k_setw _ hD hw hq⟩ hS1)
theorem k_zast (hexec : p.tables.exec = Jvm.exec) (hb : c.code = cc) (hK : va_K G.1 vwCl (kT G) s) (hR : kR G M A H) (hS : va_S A H0 H locs) {n : Nat} {f : Nat → Int32} (ha : M a = some (kZ G n f)) {i x : Int32} (hin : vp_in i n) (hdg : decode cc pc = .ok (.bastore, 1))
    (kk : ∀ (H1 : Heap) (locs1 : List Loc), kR G (va_up M a (some (kZ G n (upd f i.toNatClampNeg (vp_nar .boolean x))))) A H1 → va_S A H0 H1 locs1 → W p l e R s m args below meth c H1 locs1 cells slots Q (F0 m (pc + 1) ls rest)) : W p l e R s m args below meth c H locs cells slots Q (F0 m pc ls (.int x :: .int i :: .ref a :: rest)) := by
  obtain ⟨ws, hP, hD, hw⟩ := hR
  obtain ⟨q0, hq⟩ := (hw _ _).mp ha
  exact va_zast hexec hb hK hP hD hS q0 2 hq rfl hin hdg (fun H1 locs1 hP1 hD1 hS1 => kk H1 locs1 ⟨_, hP1, hD1, k_setw _ hD hw hq⟩ hS1)
theorem k_bast (hexec : p.tables.exec = Jvm.exec) (hb : c.code = cc) (hK : va_K G.1 vwCl (kT G) s) (hR : kR G M A H) (hS : va_S A H0 H locs) {n : Nat} {f : Nat → Int32} (ha : M a = some (kY G n f)) {i x : Int32} (hin : vp_in i n) (hdg : decode cc pc = .ok (.bastore, 1))
    (kk : ∀ (H1 : Heap) (locs1 : List Loc), kR G (va_up M a (some (kY G n (upd f i.toNatClampNeg (vp_nar .byte x))))) A H1 → va_S A H0 H1 locs1 → W p l e R s m args below meth c H1 locs1 cells slots Q (F0 m (pc + 1) ls rest)) : W p l e R s m args below meth c H locs cells slots Q (F0 m pc ls (.int x :: .int i :: .ref a :: rest)) := by
  obtain ⟨ws, hP, hD, hw⟩ := hR
  obtain ⟨q0, hq⟩ := (hw _ _).mp ha
  exact va_bast hexec hb hK hP hD hS q0 3 hq rfl hin hdg (fun H1 locs1 hP1 hD1 hS1 => kk H1 locs1 ⟨_, hP1, hD1, k_setw _ hD hw hq⟩ hS1)
theorem k_ast1 (hexec : p.tables.exec = Jvm.exec) (hb : c.code = cc) (hK : va_K G.1 vwCl (kT G) s) (hR : kR G M A H) (hS : va_S A H0 H locs) {n v : Nat} {f : Nat → Option Nat} {vs : List Value} (ha : M a = some (kO1 G n f)) (hv : M v = some (.inr (2, vs))) {i : Int32} (hin : vp_in i n) (hdg : decode cc pc = .ok (.aastore, 1))
    (kk : ∀ (H1 : Heap) (locs1 : List Loc), kR G (va_up M a (some (kO1 G n (va_up f i.toNatClampNeg (some v))))) A H1 → va_S A H0 H1 locs1 → W p l e R s m args below meth c H1 locs1 cells slots Q (F0 m (pc + 1) ls rest)) : W p l e R s m args below meth c H locs cells slots Q (F0 m pc ls (.ref v :: .int i :: .ref a :: rest)) := by
  obtain ⟨ws, hP, hD, hw⟩ := hR
  obtain ⟨q0, hq⟩ := (hw _ _).mp ha
  obtain ⟨q1, hq1⟩ := (hw _ _).mp hv
  exact va_astq (r := (RX1, TX1, 3)) hexec hb hK hP hD hS q0 4 q1 2 hq rfl hq1 rfl hin hdg (fun H1 locs1 hP1 hD1 hS1 => kk H1 locs1 ⟨_, hP1, hD1, k_setw _ hD hw hq⟩ hS1)
theorem k_ast2 (hexec : p.tables.exec = Jvm.exec) (hb : c.code = cc) (hK : va_K G.1 vwCl (kT G) s) (hR : kR G M A H) (hS : va_S A H0 H locs) {n v : Nat} {f : Nat → Option Nat} {vs : List Value} (ha : M a = some (kO2 G n f)) (hv : M v = some (.inr (3, vs))) {i : Int32} (hin : vp_in i n) (hdg : decode cc pc = .ok (.aastore, 1))
    (kk : ∀ (H1 : Heap) (locs1 : List Loc), kR G (va_up M a (some (kO2 G n (va_up f i.toNatClampNeg (some v))))) A H1 → va_S A H0 H1 locs1 → W p l e R s m args below meth c H1 locs1 cells slots Q (F0 m (pc + 1) ls rest)) : W p l e R s m args below meth c H locs cells slots Q (F0 m pc ls (.ref v :: .int i :: .ref a :: rest)) := by
  obtain ⟨ws, hP, hD, hw⟩ := hR
  obtain ⟨q0, hq⟩ := (hw _ _).mp ha
  obtain ⟨q1, hq1⟩ := (hw _ _).mp hv
  exact va_astq (r := (RX2, TX2, 7)) hexec hb hK hP hD hS q0 5 q1 3 hq rfl hq1 rfl hin hdg (fun H1 locs1 hP1 hD1 hS1 => kk H1 locs1 ⟨_, hP1, hD1, k_setw _ hD hw hq⟩ hS1)
/-- arraycopy of ints -/
theorem k_copyi (hexec : p.tables.exec = Jvm.exec) (hb : c.code = cc) (hml : c.maxLocals = ls.size) {own : String} {index : Nat} (hown : s.vm.findClass own = some m.cls) (hlink : (Cond.methodLink own index arraycopyName).before args s = true) (hnat : (Cond.native arraycopyName).before args s = true) (hstat : (Cond.static arraycopyName).before args s = true) (hini : (Cond.initialized "java/lang/System").before args s = true)
    (hK : va_K G.1 vwCl (kT G) s) (hR : kR G M A H) (hS : va_S A H0 H locs) {a0 : Nat} {n0 n1 : Nat} {f g : Nat → Int32} (ha0 : M a0 = some (kI G n0 f)) (ha1 : M a = some (kI G n1 g))
    {sp dp n : Int32} (h1 : ¬ sp < 0) (h2 : ¬ dp < 0) (h3 : ¬ n < 0) (h4 : sp.toNatClampNeg + n.toNatClampNeg ≤ n0) (h5 : dp.toNatClampNeg + n.toNatClampNeg ≤ n1)
    (hframes : 1 ≤ R.frames) (hlocals : (rest.map fun v => v.category).sum + (nativeFrameWords "java/lang/System" "arraycopy" 5 + 11) ≤ R.locals) (hdg : decode cc pc = .ok (.invokestatic index, 3))
    (kk : ∀ (H1 : Heap) (locs1 : List Loc), kR G (va_up M a (some (kI G n1 (va_cpy f g sp.toNatClampNeg dp.toNatClampNeg n.toNatClampNeg)))) A H1 → va_S A H0 H1 locs1 → W p l e R s m args below meth c H1 locs1 cells slots Q (F0 m (pc + 3) ls rest)) : W p l e R s m args below meth c H locs cells slots Q (F0 m pc ls (.int n :: .int dp :: .ref a :: .int sp :: .ref a0 :: rest)) := by
  obtain ⟨ws, hP, hD, hw⟩ := hR
  obtain ⟨q0, hq⟩ := (hw _ _).mp ha0
  obtain ⟨q1, hq1⟩ := (hw _ _).mp ha1
  exact va_copyi hexec hb hml hown hlink hnat hstat hini hK hP hD hS q0 q1 0 0 hq hq1 rfl rfl rfl h1 h2 h3 h4 h5 (fun _ _ => rfl) hframes hlocals hdg (fun H1 locs1 hP1 hD1 hS1 => kk H1 locs1 ⟨_, hP1, hD1, k_setw _ hD hw hq1⟩ hS1)
theorem k_copyb (hexec : p.tables.exec = Jvm.exec) (hb : c.code = cc) (hml : c.maxLocals = ls.size) {own : String} {index : Nat} (hown : s.vm.findClass own = some m.cls) (hlink : (Cond.methodLink own index arraycopyName).before args s = true) (hnat : (Cond.native arraycopyName).before args s = true) (hstat : (Cond.static arraycopyName).before args s = true) (hini : (Cond.initialized "java/lang/System").before args s = true)
    (hK : va_K G.1 vwCl (kT G) s) (hR : kR G M A H) (hS : va_S A H0 H locs) {a0 : Nat} {n0 n1 : Nat} {f g : Nat → Int32} (ha0 : M a0 = some (kY G n0 f)) (ha1 : M a = some (kY G n1 g))
    {sp dp n : Int32} (h1 : ¬ sp < 0) (h2 : ¬ dp < 0) (h3 : ¬ n < 0) (h4 : sp.toNatClampNeg + n.toNatClampNeg ≤ n0) (h5 : dp.toNatClampNeg + n.toNatClampNeg ≤ n1) (hfit : ∀ i : Nat, i < n.toNatClampNeg → fits .byte (.int (f (sp.toNatClampNeg + i))) = true)
    (hframes : 1 ≤ R.frames) (hlocals : (rest.map fun v => v.category).sum + (nativeFrameWords "java/lang/System" "arraycopy" 5 + 11) ≤ R.locals) (hdg : decode cc pc = .ok (.invokestatic index, 3))
    (kk : ∀ (H1 : Heap) (locs1 : List Loc), kR G (va_up M a (some (kY G n1 (va_cpy f g sp.toNatClampNeg dp.toNatClampNeg n.toNatClampNeg)))) A H1 → va_S A H0 H1 locs1 → W p l e R s m args below meth c H1 locs1 cells slots Q (F0 m (pc + 3) ls rest)) : W p l e R s m args below meth c H locs cells slots Q (F0 m pc ls (.int n :: .int dp :: .ref a :: .int sp :: .ref a0 :: rest)) := by
  obtain ⟨ws, hP, hD, hw⟩ := hR
  obtain ⟨q0, hq⟩ := (hw _ _).mp ha0
  obtain ⟨q1, hq1⟩ := (hw _ _).mp ha1
  exact va_copyi hexec hb hml hown hlink hnat hstat hini hK hP hD hS q0 q1 3 3 hq hq1 rfl rfl rfl h1 h2 h3 h4 h5 hfit hframes hlocals hdg (fun H1 locs1 hP1 hD1 hS1 => kk H1 locs1 ⟨_, hP1, hD1, k_setw _ hD hw hq1⟩ hS1)
/-- what is made -/
theorem k_new (hexec : p.tables.exec = Jvm.exec) (hb : c.code = cc) {own C : String} {T : u_T} {N ci index : Nat} {Ts : List Cond} (hts : ∀ w ∈ Ts, w.before args s = true) (hin : ∀ w ∈ u_ws C T N, w ∈ Ts) (ty : Nat → FieldType) (hty : ∀ k, k < N → parseFieldDescriptor (T k).2.2.1 = some (ty k)) (hown : s.vm.findClass own = some m.cls) (hcl : (Cond.classLink own index C).before args s = true) (hinst : (Cond.instantiable C N).before args s = true) (hini : (Cond.initialized C).before args s = true)
    (hK : va_K G.1 vwCl (kT G) s) (hR : kR G M A H) (hS : va_S A H0 H locs) (hA : ∀ q, H0.size ≤ q → A q) (hc : vwCl[ci]? = some (C, T, N)) {fs : List Value} (hfs : ∀ j, j < N → defaultValue (ty j) = vp_V fs j) (hcells : cells + 1 ≤ R.cells) (hslots : slots + N ≤ R.slots) (hdg : decode cc pc = .ok (.new index, 3))
    (kk : ∀ (q : Nat) (H1 : Heap), M q = none → kR G (va_up M q (some (.inr (ci, fs)))) A H1 → va_S A H0 H1 locs →
      W p l e R s m args below meth c H1 locs (cells + 1) (slots + N) Q (F0 m (pc + 3) ls (.ref q :: rest))) : W p l e R s m args below meth c H locs cells slots Q (F0 m pc ls rest) := by
  obtain ⟨ws, hP, hD, hw⟩ := hR
  exact va_new hexec hb hts hin ty hty hown hcl hinst hini hK hP hD hS hA hc hfs hcells hslots hdg (fun q H1 hP1 hD1 hS1 => kk q H1 (k_pushw hD1 hw).1 ⟨_, hP1, hD1, (k_pushw hD1 hw).2⟩ hS1)
theorem k_tyc {D : va_G} {cl : List vw_C} {t1 t2 : List (ClassId × FieldType)} {cA cB : ClassId} {ty : FieldType} {U : State} (h1 : va_K D cl t1 U) (h2 : va_K D cl t2 U) (i j : Nat) (e1 : t1[i]? = some (cA, ty)) (e2 : t2[j]? = some (cB, ty)) : cA = cB := by
  have a1 := (h1.2 i _ e1).2
  have a2 := (h2.2 j _ e2).2
  have f1 : U.vm.findClass ("[" ++ ty.toString) = some cA := by
    cases ty with
    | object C => obtain ⟨_, _, _, _, _, h⟩ := a1; exact h
    | _ => exact a1
  have f2 : U.vm.findClass ("[" ++ ty.toString) = some cB := by
    cases ty with
    | object C => obtain ⟨_, _, _, _, _, h⟩ := a2; exact h
    | _ => exact a2
  exact Option.some.inj (f1.symm.trans f2)
/-- a new array of ints, chars, booleans or bytes: t0 is its place in kT -/
theorem k_newa (hexec : p.tables.exec = Jvm.exec) (hb : c.code = cc) {atype : ArrayType} (harr : (Cond.arrayClass (newarray.typeOf atype)).before args s = true) {ty : FieldType} (hty : newarray.typeOf atype = ty) (t0 : Nat) {cA : ClassId} (ht : (kT G)[t0]? = some (cA, ty)) (hK : va_K G.1 vwCl (kT G) s) (hR : kR G M A H) (hS : va_S A H0 H locs) (hA : ∀ q, H0.size ≤ q → A q)
    {n : Int32} {N' : Nat} {a0 : vp_A} (ha : ∀ cA : ClassId, vp_cell cA a0 = arrV cA N' (fun _ => defaultValue ty)) (hn : ¬ n < 0) (hN : n.toNatClampNeg = N') (hbytes : N' * componentBytes ty ≤ 536870912) (hcells : cells + 1 ≤ R.cells) (hslots : slots + N' ≤ R.slots) (hdg : decode cc pc = .ok (.newarray atype, 2))
    (kk : ∀ (q : Nat) (H1 : Heap), M q = none → kR G (va_up M q (some (.inl (cA, a0)))) A H1 → va_S A H0 H1 locs →
      W p l e R s m args below meth c H1 locs (cells + 1) (slots + N') Q (F0 m (pc + 2) ls (.ref q :: rest))) : W p l e R s m args below meth c H locs cells slots Q (F0 m pc ls (.int n :: rest)) := by
  obtain ⟨ws, hP, hD, hw⟩ := hR
  refine va_newa hexec hb harr hty hK hP hD hS hA ha hn hN hbytes hcells hslots hdg (fun q cB H1 hK1 hP1 hD1 hS1 => ?_)
  have hcc : cB = cA := k_tyc hK1 hK (kT G).length t0 (by simp) ht
  subst hcc
  exact kk q H1 (k_pushw hD1 hw).1 ⟨_, hP1, hD1, (k_pushw hD1 hw).2⟩ hS1
theorem k_newq (hexec : p.tables.exec = Jvm.exec) (hb : c.code = cc) {own C : String} {index : Nat} (hown : s.vm.findClass own = some m.cls) (hclink : (Cond.classLink own index C).before args s = true) (hover : va_AO C s) (t0 : Nat) {cA : ClassId} (ht : (kT G)[t0]? = some (cA, .object C)) (hK : va_K G.1 vwCl (kT G) s) (hR : kR G M A H) (hS : va_S A H0 H locs) (hA : ∀ q, H0.size ≤ q → A q)
    {n : Int32} {N' : Nat} (hn : ¬ n < 0) (hN : n.toNatClampNeg = N') (hbytes : N' * 4 ≤ 536870912) (hcells : cells + 1 ≤ R.cells) (hslots : slots + N' ≤ R.slots) (hdg : decode cc pc = .ok (.anewarray index, 3))
    (kk : ∀ (q : Nat) (H1 : Heap), M q = none → kR G (va_up M q (some (.inl (cA, N', .inr (.inr (.inr (.inr (fun _ => none)))))))) A H1 → va_S A H0 H1 locs →
      W p l e R s m args below meth c H1 locs (cells + 1) (slots + N') Q (F0 m (pc + 3) ls (.ref q :: rest))) : W p l e R s m args below meth c H locs cells slots Q (F0 m pc ls (.int n :: rest)) := by
  obtain ⟨ws, hP, hD, hw⟩ := hR
  refine va_newq hexec hb hown hclink hover hK hP hD hS hA hn hN hbytes hcells hslots hdg (fun q cB H1 hK1 hP1 hD1 hS1 => ?_)
  have hcc : cB = cA := k_tyc hK1 hK (kT G).length t0 (by simp) ht
  subst hcc
  exact kk q H1 (k_pushw hD1 hw).1 ⟨_, hP1, hD1, (k_pushw hD1 hw).2⟩ hS1
/-- ends -/
theorem k_reti {M0 : k_M} {post : Int32 → k_M → Prop} {v : Int32} {ty : FieldType} (hexec : p.tables.exec = Jvm.exec) (hb : c.code = cc) (hr : meth.sig.returnType = some ty) (hlocks : meth.locks = false) (hn : narrow ty (.int v) = .int v) (hR : kR G M (kA M0 s.heap.size) H) (hS : va_S (kA M0 s.heap.size) s.heap H locs) (hp : post v M) (hdg : decode cc pc = .ok (.ireturn, 1)) :
    W p l e R s m args below meth c H locs cells slots (MQ below (va_Qi post (kB G M0 s.heap.size) (kA M0 s.heap.size)) args s cells slots (kA M0 s.heap.size)) (F0 m pc ls [.int v]) :=
  W.zret (v := v) hexec hb hr hn (fun t ht hW => ⟨⟨v, M, rfl, hp, by show kR G M _ t.heap; rw [ht]; exact hR⟩, hS.F ht⟩) hS.2.2 hdg hlocks
theorem k_retv {M0 : k_M} {post : k_M → Prop} (hexec : p.tables.exec = Jvm.exec) (hb : c.code = cc) (hr : meth.sig.returnType = none) (hlocks : meth.locks = false) (hR : kR G M (kA M0 s.heap.size) H) (hS : va_S (kA M0 s.heap.size) s.heap H locs) (hp : post M) (hdg : decode cc pc = .ok (.return_, 1)) :
    W p l e R s m args below meth c H locs cells slots (MQ below (va_Qv post (kB G M0 s.heap.size) (kA M0 s.heap.size)) args s cells slots (kA M0 s.heap.size)) (F0 m pc ls []) :=
  W.vret hexec hb hr (fun t ht hW => ⟨⟨M, rfl, hp, by show kR G M _ t.heap; rw [ht]; exact hR⟩, hS.F ht⟩) hS.2.2 hdg hlocks
theorem k_retq {M0 : k_M} {post : Option Nat → k_M → Prop} {v : Nat} {rt : FieldType} (hexec : p.tables.exec = Jvm.exec) (hb : c.code = cc) (hr : meth.sig.returnType = some rt) (hrt : (∃ n, rt = .object n) ∨ ∃ t, rt = .array t) (hlocks : meth.locks = false) (hR : kR G M (kA M0 s.heap.size) H) (hS : va_S (kA M0 s.heap.size) s.heap H locs) (hp : post (some v) M) (hdg : decode cc pc = .ok (.areturn, 1)) :
    W p l e R s m args below meth c H locs cells slots (MQ below (va_Qq post (kB G M0 s.heap.size) (kA M0 s.heap.size)) args s cells slots (kA M0 s.heap.size)) (F0 m pc ls [.ref v]) :=
  W.aret (v := .ref v) hexec hb hr hrt (Or.inr ⟨v, rfl⟩) (fun t ht hW => ⟨⟨some v, M, rfl, hp, by show kR G M _ t.heap; rw [ht]; exact hR⟩, hS.F ht⟩) hS.2.2 hdg hlocks
theorem k_retn {M0 : k_M} {post : Option Nat → k_M → Prop} {rt : FieldType} (hexec : p.tables.exec = Jvm.exec) (hb : c.code = cc) (hr : meth.sig.returnType = some rt) (hrt : (∃ n, rt = .object n) ∨ ∃ t, rt = .array t) (hlocks : meth.locks = false) (hR : kR G M (kA M0 s.heap.size) H) (hS : va_S (kA M0 s.heap.size) s.heap H locs) (hp : post none M) (hdg : decode cc pc = .ok (.areturn, 1)) :
    W p l e R s m args below meth c H locs cells slots (MQ below (va_Qq post (kB G M0 s.heap.size) (kA M0 s.heap.size)) args s cells slots (kA M0 s.heap.size)) (F0 m pc ls [.null]) :=
  W.aret (v := .null) hexec hb hr hrt (Or.inl rfl) (fun t ht hW => ⟨⟨none, M, rfl, hp, by show kR G M _ t.heap; rw [ht]; exact hR⟩, hS.F ht⟩) hS.2.2 hdg hlocks
end KIT
