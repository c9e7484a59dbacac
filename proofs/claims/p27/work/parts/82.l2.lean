/-! ===== the law: what is known at its start ===== -/
theorem l_eqi {args : Array Value} {s : State} {t : Term} {z : Int32} (h : (Cond.eq t (.int z)).before args s = true) : t.eval args s none [] s = some (.int z) := by
  cases hv : t.eval args s none [] s with
  | none => simp [Cond.before, Cond.holds, Cond.value, hv] at h
  | some w =>
    have hz : (Term.int z).eval args s none [] s = some (.int z) := rfl
    simp only [Cond.before, Cond.holds, Cond.value, hv, hz] at h
    cases w <;> simp_all
abbrev l_nfl : List Cond := flatC (Jvm.Cond.and given_1 narrow_1)
abbrev l_tO : Term := .static "java/lang/Integer" "DigitOnes" "[B"
abbrev l_tT : Term := .static "java/lang/Integer" "DigitTens" "[B"
set_option maxRecDepth 100000 in
theorem l_ones : ∀ j, j < 100 → l_nfl[8 + j]? = some (Cond.eq (.elem l_tO (.int (Int32.ofNat j))) (.int (nI (48 + j % 10)))) := by decide +kernel
set_option maxRecDepth 100000 in
theorem l_tens : ∀ j, j < 100 → l_nfl[111 + j]? = some (Cond.eq (.elem l_tT (.int (Int32.ofNat j))) (.int (nI (48 + j / 10)))) := by decide +kernel
theorem l_tab {s : State} {args : Array Value} {n : String} {t : Nat → Nat} (hl : (Cond.laysStatic "java/lang/Integer" n "[B").before args s = true) (hini : (Cond.initialized "java/lang/Integer").before args s = true)
    (harr : (Cond.arrayOf (.static "java/lang/Integer" n "[B") .byte).before args s = true) (hlen : (Cond.eq (.length (.static "java/lang/Integer" n "[B")) (.int (100 : Int32))).before args s = true)
    (hel : ∀ j, j < 100 → (Cond.eq (.elem (.static "java/lang/Integer" n "[B") (.int (Int32.ofNat j))) (.int (nI (48 + t j)))).before args s = true) :
    ∃ a : Nat, va_Z "java/lang/Integer" n "[B" (.ref a) (fun q : Nat => s.heap.size ≤ q) s s.heap ∧ va_T .byte a 100 (kD t) (fun q : Nat => s.heap.size ≤ q) s s.heap := by
  have hA : ∀ a : Nat, a < s.heap.size → ¬ (fun q : Nat => s.heap.size ≤ q) a := fun a h => Nat.not_le.mpr h
  obtain ⟨a, h1, h2⟩ := va_Tof (N := 100) (f := kD t) (by decide) harr (l_eqi hlen) (fun j hj => l_eqi (hel j hj)) hA
  exact ⟨a, va_Zref hl hini h1 hA, h2⟩
set_option maxRecDepth 100000 in
theorem l_kE {s : State} {args : Array Value} {b L : Nat} {xs : Nat → Int32} (hX : va_X b L xs s s.heap) (hbl : b < s.heap.size) (hts : ∀ w ∈ lw_tbl, w.before args s = true) (hgv : (Jvm.Cond.and given_1 narrow_1).before args s = true) :
    ∃ G : k_G, kE G (fun q : Nat => s.heap.size ≤ q) s ∧ kR G (fun _ => none) (fun q : Nat => s.heap.size ≤ q) s.heap ∧ kb G = b ∧ kL G = L := by
  have hl := lw_hts hts
  have hs := flat_of_before _ hgv
  have hA : ∀ a : Nat, a < s.heap.size → ¬ (fun q : Nat => s.heap.size ≤ q) a := fun a h => Nat.not_le.mpr h
  obtain ⟨c0, i0, k0⟩ := u_known (C := RJ4) (T := TJ4) (N := 4) (n := 4) hl inlJ4 (hts _ (by decide +kernel))
  obtain ⟨c1, i1, k1⟩ := u_known (C := RX0) (T := TX0) (N := 7) (n := 7) hl inlX0 (hts _ (by decide +kernel))
  obtain ⟨c2, i2, k2⟩ := u_known (C := RX1) (T := TX1) (N := 3) (n := 3) hl inlX1 (hts _ (by decide +kernel))
  obtain ⟨c3, i3, k3⟩ := u_known (C := RX2) (T := TX2) (N := 7) (n := 7) hl inlX2 (hts _ (by decide +kernel))
  obtain ⟨c4, i4, k4⟩ := u_known (C := RX3) (T := TX3) (N := 8) (n := 8) hl inlX3 (hts _ (by decide +kernel))
  obtain ⟨a0, p0⟩ := l_arr (ty := .int) (hts _ (by decide +kernel)) (fun C z => by cases z)
  obtain ⟨a1, p1⟩ := l_arr (ty := .char) (hts _ (by decide +kernel)) (fun C z => by cases z)
  obtain ⟨a2, p2⟩ := l_arr (ty := .boolean) (hts _ (by decide +kernel)) (fun C z => by cases z)
  obtain ⟨a3, p3⟩ := l_arr (ty := .byte) (hts _ (by decide +kernel)) (fun C z => by cases z)
  obtain ⟨a4, p4⟩ := l_arrO (C := RX1) (hts _ (by decide +kernel))
  obtain ⟨a5, p5⟩ := l_arrO (C := RX2) (hts _ (by decide +kernel))
  obtain ⟨a6, p6⟩ := l_arr (ty := .long) (hts _ (by decide +kernel)) (fun C z => by cases z)
  have hini : (Cond.initialized "java/lang/Integer").before args s = true := hts _ (by decide +kernel)
  have zC : va_Z "java/lang/String" "COMPACT_STRINGS" "Z" (.int 1) (fun q : Nat => s.heap.size ≤ q) s s.heap := va_Zof (hts _ (by decide +kernel)) (hts _ (by decide +kernel)) (l_eqi (hs _ (List.mem_of_getElem? (i := 4) (by decide +kernel)))) hA
  have zT := l_tab (n := "DigitTens") (t := fun j => j / 10) (hts _ (by decide +kernel)) hini (hs _ (List.mem_of_getElem? (i := 109) (by decide +kernel))) (hs _ (List.mem_of_getElem? (i := 110) (by decide +kernel))) (fun j hj => hs _ (List.mem_of_getElem? (l_tens j hj)))
  have zO := l_tab (n := "DigitOnes") (t := fun j => j % 10) (hts _ (by decide +kernel)) hini (hs _ (List.mem_of_getElem? (i := 6) (by decide +kernel))) (hs _ (List.mem_of_getElem? (i := 7) (by decide +kernel))) (fun j hj => hs _ (List.mem_of_getElem? (l_ones j hj)))
  have zF : va_Zq "jdk/internal/util/Preconditions" "SIOOBE_FORMATTER" "Ljava/util/function/BiFunction;" (fun q : Nat => s.heap.size ≤ q) s s.heap := va_Zqof (hts _ (by decide +kernel)) (hts _ (by decide +kernel)) (hs _ (List.mem_of_getElem? (i := 211) (by decide +kernel))) hA
  have n1 : va_Nw (.methodLinkNest RX2 30 yX1_init RX3) s := va_Nw.of rfl (hts _ (by decide +kernel))
  have n2 : va_Nw (.methodLinkNest RX3 29 yX0_init RX3) s := va_Nw.of rfl (hts _ (by decide +kernel))
  have n3 : va_Nw (.methodLinkNest RX0 17 yX1_init RX3) s := va_Nw.of rfl (hts _ (by decide +kernel))
  have n4 : va_Nw (.methodLinkNest RX3 36 yX1_init RX3) s := va_Nw.of rfl (hts _ (by decide +kernel))
  have n5 : va_AO RX1 s := va_AO.of (hts _ (by decide +kernel))
  have n6 : va_AO RX2 s := va_AO.of (hts _ (by decide +kernel))
  refine ⟨((fun k => match k with | 0 => c0 | 1 => c1 | 2 => c2 | 3 => c3 | _ => c4, fun k => match k with | 0 => i0 | 1 => i1 | 2 => i2 | 3 => i3 | _ => i4), (fun k => match k with | 0 => a0 | 1 => a1 | 2 => a2 | 3 => a3 | 4 => a4 | 5 => a5 | _ => a6), (b, L, xs)), ⟨⟨?_, ?_⟩, ⟨zC, zT, zO, zF, hX, hbl, Nat.not_le.mpr hbl⟩, n1, n2, n3, n4, n5, n6⟩, ?_, rfl, rfl⟩
  · intro k q hq
    match k, hq with
    | 0, hq => cases hq; exact k0
    | 1, hq => cases hq; exact k1
    | 2, hq => cases hq; exact k2
    | 3, hq => cases hq; exact k3
    | 4, hq => cases hq; exact k4
    | k + 5, hq => simp [vwCl] at hq
  · intro k q hq
    match k, hq with
    | 0, hq => cases hq; exact p0
    | 1, hq => cases hq; exact p1
    | 2, hq => cases hq; exact p2
    | 3, hq => cases hq; exact p3
    | 4, hq => cases hq; exact p4
    | 5, hq => cases hq; exact p5
    | 6, hq => cases hq; exact p6
    | k + 7, hq => simp at hq
  · exact ⟨[], fun k q h => by simp at h, ⟨fun i j p q h => by simp at h, fun k q h => by simp at h⟩, fun a e => by simp⟩
