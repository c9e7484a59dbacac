/-! ===== the law's text of a stamp, cell by cell ===== -/
def lsz (c : Nat) : Nat := if c % 16 = 0 then 4 else if c % 8 = 0 then 3 else if c % 4 = 0 then 2 else if c % 2 = 0 then 1 else 0
def lfd (f : Nat → Int32) (c : Nat) : Nat → Nat
  | 0 => 0
  | d + 1 => if leaf f c (2 ^ (d + 1)) = true then d + 1 else lfd f c d
def lfc (f : Nat → Int32) (c : Nat) : Nat := lfd f c (lsz c)
def lcm (e : Nat) : List Nat := if e < 16 then [44] else []
/-- what is written at the cell c -/
def Ec (f : Nat → Int32) (c : Nat) : List Nat :=
  if insd f c = true then [] else List.replicate (lsz c - lfc f c) 40 ++ digs (uI (f c)) ++ List.replicate (lsz (c + 2 ^ lfc f c) - lfc f c) 41 ++ lcm (c + 2 ^ lfc f c)
def catE (f : Nat → Int32) (a : Nat) : Nat → List Nat
  | 0 => []
  | n + 1 => catE f a n ++ Ec f (a + n)
theorem catE_add (f : Nat → Int32) (a m : Nat) : ∀ n, catE f a (m + n) = catE f a m ++ catE f (a + m) n := by
  intro n
  induction n with
  | zero => rw [Nat.add_zero]; exact (List.append_nil _).symm
  | succ n ih =>
    show catE f a (m + n) ++ Ec f (a + (m + n)) = catE f a m ++ (catE f (a + m) n ++ Ec f (a + m + n))
    rw [ih, List.append_assoc, Nat.add_assoc]
def bkE (f : Nat → Int32) (d a : Nat) : List Nat := List.replicate (lsz a - d) 40 ++ tx f d a ++ List.replicate (lsz (a + 2 ^ d) - d) 41 ++ lcm (a + 2 ^ d)
theorem tn_le : ∀ d, d < 5 → ∀ D, D ≤ d → ∀ a, a < 16 → a % 2 ^ d = 0 → a % 2 ^ D = 0 := by decide +kernel
theorem tn_lsz : ∀ d, d < 5 → ∀ a, a < 16 → a % 2 ^ d = 0 → d ≤ lsz a := by decide +kernel
theorem tn_szl : ∀ a, a < 16 → ∀ D, D ≤ lsz a → a % 2 ^ D = 0 := by decide +kernel
theorem tn_sz4 : ∀ a, a < 17 → lsz a ≤ 4 := by decide +kernel
theorem tn_in : ∀ d, d < 5 → ∀ a, a < 16 → a % 2 ^ d = 0 → ∀ i, i < 2 ^ d → (a + i) % 2 ^ d = i := by decide +kernel
theorem tn_h1 : ∀ d, d < 4 → ∀ a, a < 16 → a % 2 ^ (d + 1) = 0 → a + 2 ^ (d + 1) ≤ 16 → lsz (a + 2 ^ d) = d ∧ a % 2 ^ d = 0 ∧ (a + 2 ^ d) % 2 ^ d = 0 := by decide +kernel
theorem tn_h2 : ∀ d, d < 4 → ∀ a, a < 16 → a % 2 ^ (d + 1) = 0 → a + 2 ^ (d + 1) ≤ 16 → a + 2 ^ d < 16 ∧ d + 1 ≤ lsz a ∧ d + 1 ≤ lsz (a + 2 ^ (d + 1)) := by decide +kernel
theorem tx_s (f : Nat → Int32) (d a : Nat) : tx f (d + 1) a = if leaf f a (2 ^ (d + 1)) = true then digs (uI (f a)) else [40] ++ tx f d a ++ [44] ++ tx f d (a + 2 ^ d) ++ [41] := rfl
theorem tn_up : ∀ d, d < 4 → ∀ a, a < 16 → a % 2 ^ (d + 1) = 0 → ∀ D, D < 5 → d < D → a + 2 ^ d - (a + 2 ^ d) % 2 ^ D = a - a % 2 ^ D := by decide +kernel
theorem leaf_1 (f : Nat → Int32) (a : Nat) : leaf f a (2 ^ 0) = true := rfl
theorem lfd_eq {f : Nat → Int32} {c d : Nat} (hl : leaf f c (2 ^ d) = true) : ∀ k, d ≤ k → (∀ D, d < D → D ≤ k → leaf f c (2 ^ D) = false) → lfd f c k = d := by
  intro k
  induction k with
  | zero => intro hk _; have : d = 0 := by omega
            subst this; rfl
  | succ k ih =>
    intro hk h
    rw [lfd]
    by_cases e : d = k + 1
    · subst e
      rw [if_pos hl]
    · rw [if_neg (by rw [h (k + 1) (by omega) (Nat.le_refl _)]; decide)]
      exact ih (by omega) (fun D h1 h2 => h D h1 (by omega))
theorem insd_no {f : Nat → Int32} {d a : Nat} (hd : d < 5) (ha : a < 16) (hm : a % 2 ^ d = 0) (hb : ∀ D, d < D → D ≤ 4 → leaf f (a - a % 2 ^ D) (2 ^ D) = false) : insd f a = false := by
  refine ts_nt (fun h => ?_)
  unfold insd at h
  rw [kAny_iff] at h
  obtain ⟨D, hD, h⟩ := h
  rw [Bool.and_eq_true] at h
  rcases Nat.lt_or_ge d (D + 1) with z | z
  · rw [hb (D + 1) z (by omega)] at h
    cases h.2
  · rw [tn_le d hd (D + 1) z a ha hm] at h
    cases h.1
theorem insd_yes {f : Nat → Int32} {d a i : Nat} (hd : d < 5) (ha : a < 16) (hm : a % 2 ^ d = 0) (hl : leaf f a (2 ^ d) = true) (hi : i < 2 ^ d) (h0 : 0 < i) : insd f (a + i) = true := by
  cases d with
  | zero => have : i < 1 := hi; omega
  | succ d =>
    unfold insd
    rw [kAny_iff]
    have e := tn_in (d + 1) hd a ha hm i hi
    refine ⟨d, by omega, ?_⟩
    rw [e, Nat.add_sub_cancel, hl, decide_eq_false (by omega)]
    rfl
theorem blk_leaf {f : Nat → Int32} {d a : Nat} (hd : d < 5) (ha : a < 16) (hm : a % 2 ^ d = 0) (hl : leaf f a (2 ^ d) = true) (hb : ∀ D, d < D → D ≤ 4 → leaf f (a - a % 2 ^ D) (2 ^ D) = false) :
    catE f a (2 ^ d) = List.replicate (lsz a - d) 40 ++ digs (uI (f a)) ++ List.replicate (lsz (a + 2 ^ d) - d) 41 ++ lcm (a + 2 ^ d) := by
  have e1 : lfc f a = d := lfd_eq hl _ (tn_lsz d hd a ha hm) (fun D h1 h2 => by
    have := hb D h1 (by have := tn_sz4 a (by omega); omega)
    rw [tn_szl a ha D h2] at this
    exact this)
  have e2 : Ec f a = List.replicate (lsz a - d) 40 ++ digs (uI (f a)) ++ List.replicate (lsz (a + 2 ^ d) - d) 41 ++ lcm (a + 2 ^ d) := by
    unfold Ec
    rw [if_neg (by rw [insd_no hd ha hm hb]; decide), e1]
  have key : ∀ n, n + 1 ≤ 2 ^ d → catE f a (n + 1) = Ec f a := by
    intro n
    induction n with
    | zero => intro _; show [] ++ Ec f (a + 0) = _; rfl
    | succ n ih =>
      intro hn
      show catE f a (n + 1) ++ Ec f (a + (n + 1)) = _
      rw [ih (by omega)]
      have : Ec f (a + (n + 1)) = [] := by
        unfold Ec
        rw [if_pos (insd_yes hd ha hm hl (by omega) (by omega))]
      rw [this, List.append_nil]
  have hp := li_pos d
  have := key (2 ^ d - 1) (by omega)
  rw [show 2 ^ d - 1 + 1 = 2 ^ d by omega] at this
  rw [this, e2]
theorem blk (f : Nat → Int32) : ∀ d, d < 5 → ∀ a, a % 2 ^ d = 0 → a + 2 ^ d ≤ 16 → (∀ D, d < D → D ≤ 4 → leaf f (a - a % 2 ^ D) (2 ^ D) = false) → catE f a (2 ^ d) = bkE f d a := by
  intro d
  induction d with
  | zero =>
    intro _ a hm ha hb
    have ha' : a + 1 ≤ 16 := ha
    exact blk_leaf (by omega) (by omega) hm (leaf_1 f a) hb
  | succ d ih =>
    intro hd a hm ha hb
    have hp := li_pos (d + 1)
    have e2 : 2 ^ (d + 1) = 2 ^ d + 2 ^ d := by rw [Nat.pow_succ]; omega
    by_cases hl : leaf f a (2 ^ (d + 1)) = true
    · rw [blk_leaf hd (by omega) hm hl hb]
      unfold bkE
      rw [tx_s, if_pos hl]
    · have hlf : leaf f a (2 ^ (d + 1)) = false := ts_nt hl
      obtain ⟨t1, t2, t3⟩ := tn_h1 d (by omega) a (by omega) hm ha
      obtain ⟨t4, t5, t6⟩ := tn_h2 d (by omega) a (by omega) hm ha
      have i1 := ih (by omega) a t2 (by omega) (fun D h1 h2 => by
        by_cases e : D = d + 1
        · rw [e, hm]; exact hlf
        · exact hb D (by omega) h2)
      have i2 := ih (by omega) (a + 2 ^ d) t3 (by omega) (fun D h1 h2 => by
        rw [tn_up d (by omega) a (by omega) hm D (by omega) h1]
        by_cases e : D = d + 1
        · rw [e, hm]; exact hlf
        · exact hb D (by omega) h2)
      rw [show catE f a (2 ^ (d + 1)) = catE f a (2 ^ d + 2 ^ d) by rw [e2], catE_add, i1, i2]
      unfold bkE
      rw [tx_s, if_neg hl, show a + 2 ^ d + 2 ^ d = a + 2 ^ (d + 1) by omega, t1, Nat.sub_self]
      have c1 : lcm (a + 2 ^ d) = [44] := if_pos t4
      rw [c1, show lsz a - d = lsz a - (d + 1) + 1 by omega, show lsz (a + 2 ^ (d + 1)) - d = lsz (a + 2 ^ (d + 1)) - (d + 1) + 1 by omega, List.replicate_succ', List.replicate_succ (n := lsz (a + 2 ^ (d + 1)) - (d + 1))]
      simp [List.append_assoc]
theorem catE_tx (f : Nat → Int32) : catE f 0 16 = tx f 4 0 := by
  have := blk f 4 (by omega) 0 (by decide) (by decide) (fun D h1 h2 => by omega)
  rw [show (2 : Nat) ^ 4 = 16 by decide] at this
  rw [this]
  unfold bkE
  rw [show lsz 0 = 4 by decide, show lsz (0 + 2 ^ 4) = 4 by decide, show lcm (0 + 2 ^ 4) = [] by decide]
  simp
/-! what is open -/
def opn1 (a : Int32) (x : Nat) : Int32 := if x = 40 then a + 1 else if x = 41 then a + (-1) else a
def opn (l : List Nat) : Int32 := l.foldl opn1 0
theorem opn_s (l : List Nat) (x : Nat) : opn (l ++ [x]) = opn1 (opn l) x := by unfold opn; rw [List.foldl_append]; rfl
theorem opn_digs (a : Int32) (v : Nat) : (digs v).foldl opn1 a = a := by
  have e : ∀ (a : Int32) (x : Nat), opn1 a (48 + x) = a := fun a x => by unfold opn1; rw [if_neg (by omega), if_neg (by omega)]
  unfold digs
  split
  · simp [e]
  · split
    · simp [e]
    · simp [e]
theorem opn_tx (f : Nat → Int32) : ∀ (d b : Nat) (a : Int32), (tx f d b).foldl opn1 a = a := by
  intro d
  induction d with
  | zero => intro b a; exact opn_digs a _
  | succ d ih =>
    intro b a
    rw [tx_s]
    by_cases hl : leaf f b (2 ^ (d + 1)) = true
    · rw [if_pos hl]
      exact opn_digs a _
    · rw [if_neg hl, List.foldl_append, List.foldl_append, List.foldl_append, List.foldl_append, ih, ih]
      simp only [List.foldl_cons, List.foldl_nil]
      have e1 : opn1 a 40 = a + 1 := by unfold opn1; rw [if_pos rfl]
      have e2 : opn1 (a + 1) 44 = a + 1 := by unfold opn1; rw [if_neg (by decide), if_neg (by decide)]
      have e3 : opn1 (a + 1) 41 = a + 1 + (-1) := by unfold opn1; rw [if_neg (by decide), if_pos rfl]
      rw [e1, e2, e3, Int32.add_assoc, show (1 : Int32) + (-1) = 0 by decide, Int32.add_zero]
theorem opn_all (f : Nat → Int32) : opn (tx f 4 0) = 0 := opn_tx f 4 0 0
