/-! ===== the reference: knots ===== -/
def nlf (f : Nat → Int32) (a s : Nat) : Nat → Nat := kCt (fun i => !leaf f (a + s * i) s)
def wkn (f : Nat → Int32) (a d : Nat) : Nat → Nat
  | 0 => 0
  | e + 1 => wkn f a d e + nlf f a (2 ^ (e + 1)) (2 ^ (d - (e + 1)))
theorem wkn_split (f : Nat → Int32) (a d : Nat) : ∀ e, e ≤ d → wkn f a (d + 1) e = wkn f a d e + wkn f (a + 2 ^ d) d e := by
  intro e
  induction e with
  | zero => intro _; rfl
  | succ e ih =>
    intro he
    rw [wkn, wkn, wkn, ih (by omega)]
    have e1 : 2 ^ (d + 1 - (e + 1)) = 2 ^ (d - (e + 1)) + 2 ^ (d - (e + 1)) := by
      rw [show d + 1 - (e + 1) = (d - (e + 1)) + 1 by omega, Nat.pow_succ]; omega
    have e2 : 2 ^ (e + 1) * 2 ^ (d - (e + 1)) = 2 ^ d := by rw [← Nat.pow_add]; congr 1; omega
    have e3 : nlf f a (2 ^ (e + 1)) (2 ^ (d + 1 - (e + 1))) = nlf f a (2 ^ (e + 1)) (2 ^ (d - (e + 1))) + nlf f (a + 2 ^ d) (2 ^ (e + 1)) (2 ^ (d - (e + 1))) := by
      unfold nlf
      rw [e1, kCt_split]
      refine congrArg _ (kCt_cong (fun i _ => ?_))
      rw [Nat.mul_add, e2, Nat.add_assoc]
    rw [e3]
    omega
theorem leaf_sub {f : Nat → Int32} {a s b t : Nat} (ht : 1 ≤ t) (hab : a ≤ b) (hbt : b + t ≤ a + s) (h : leaf f a s = true) : leaf f b t = true := by
  have hx : ∀ i, i < s → f (a + i) = f a := fun i hi => by
    rcases Nat.eq_zero_or_pos i with z | z
    · rw [z]; rfl
    · have := of_decide_eq_true (kAll_iff.mp h (i - 1) (by omega))
      rw [show a + 1 + (i - 1) = a + i by omega] at this
      exact this
  refine kAll_iff.mpr (fun i hi => decide_eq_true ?_)
  have h1 := hx (b + 1 + i - a) (by omega)
  have h2 := hx (b - a) (by omega)
  rw [show a + (b + 1 + i - a) = b + 1 + i by omega] at h1
  rw [show a + (b - a) = b by omega] at h2
  rw [h1, h2]
theorem kCt_0 {p : Nat → Bool} : ∀ {n : Nat}, (∀ i, i < n → p i = false) → kCt p n = 0 := by
  intro n
  induction n with
  | zero => intro _; rfl
  | succ n ih => intro h; rw [kCt, h n (by omega), ih (fun i hi => h i (by omega))]; rfl
theorem wkn_leaf {f : Nat → Int32} {a d : Nat} (h : leaf f a (2 ^ d) = true) : ∀ e, e ≤ d → wkn f a d e = 0 := by
  intro e
  induction e with
  | zero => intro _; rfl
  | succ e ih =>
    intro he
    rw [wkn, ih (by omega), Nat.zero_add]
    refine kCt_0 (fun i hi => ?_)
    have e2 : 2 ^ (e + 1) * 2 ^ (d - (e + 1)) = 2 ^ d := by rw [← Nat.pow_add]; congr 1; omega
    have h3 : 2 ^ (e + 1) * (i + 1) ≤ 2 ^ (e + 1) * 2 ^ (d - (e + 1)) := Nat.mul_le_mul_left _ hi
    rw [Nat.mul_add, Nat.mul_one, e2] at h3
    rw [leaf_sub (Nat.pos_of_ne_zero (by simp)) (by omega) (by omega) h]
    rfl
theorem kKn_wkn (f : Nat → Int32) : ∀ d a, kKn f d a = wkn f a d d := by
  intro d
  induction d with
  | zero => intro a; rfl
  | succ d ih =>
    intro a
    rw [kKn]
    by_cases h : leaf f a (2 ^ (d + 1)) = true
    · rw [if_pos h, wkn_leaf h (d + 1) (Nat.le_refl _)]
    · rw [if_neg h, wkn, wkn_split f a d d (Nat.le_refl _), ← ih a, ← ih (a + 2 ^ d), Nat.sub_self]
      have : nlf f a (2 ^ (d + 1)) (2 ^ 0) = 1 := by
        show kCt (fun i => !leaf f (a + 2 ^ (d + 1) * i) (2 ^ (d + 1))) (0 + 1) = 1
        rw [kCt]
        have hf : leaf f (a + 2 ^ (d + 1) * 0) (2 ^ (d + 1)) = false := by
          rw [Nat.mul_zero, Nat.add_zero]
          cases hl : leaf f a (2 ^ (d + 1)) with
          | true => exact absurd hl h
          | false => rfl
        rw [hf]; rfl
      rw [this]; omega
section G3
variable {G : k_G} {M : k_M} {post : Int32 → k_M → Prop}
theorem g_knots13 {a n p s cnt : Nat} {row : Nat → Int32} {K : Nat → Int32 → Int32 → Int32 → k_M → Prop} (hn : n ≤ 3000) (hpn : p + 21 ≤ n) (hs : 1 ≤ s) (hsc : s * cnt = 16) (ha : M a = some (kI G n row)) (b : Nat) (hK : K a (nI p) (nI (b + nlf (hR row p) 0 s cnt)) (nI (s * 2)) M) : ∃ k, wp_X4_knots_L13 G post K k a (nI p) (nI b) (nI s) 0 M := by
  have key : ∀ (j k : Nat), k + j = cnt → wp_X4_knots_L13 G post K (j + 1) a (nI p) (nI (b + nlf (hR row p) 0 s k)) (nI s) (nI (s * k)) M := by
    intro j
    induction j with
    | zero =>
      intro k hk
      have : k = cnt := by omega
      subst this
      rw [wp_X4_knots_L13]
      dsimp only
      rw [hsc, show nI s * (2 : Int32) = nI (s * 2) from pk_mul s 2]
      exact ⟨fun _ => hK, fun z => absurd (by decide) z⟩
    | succ j ih =>
      intro k hk
      have hm : s * (k + 1) ≤ s * cnt := Nat.mul_le_mul_left _ (by omega)
      rw [Nat.mul_add, Nat.mul_one, hsc] at hm
      have nx := ih (k + 1) (by omega)
      have e1 : nlf (hR row p) 0 s (k + 1) = nlf (hR row p) 0 s k + (if (!leaf (hR row p) (0 + s * k) s) = true then 1 else 0) := rfl
      rw [e1, Nat.zero_add, Nat.mul_add, Nat.mul_one] at nx
      rw [wp_X4_knots_L13]
      dsimp only
      refine ⟨fun z => absurd z (kge (N := 16) (by omega) (by decide)), fun _ => g_areAlike hn hpn hs (by omega) ha ?_⟩
      rw [nIa]
      refine ⟨fun h => ?_, fun h => ?_⟩
      · rw [k01_z.mp h] at nx
        rw [show nI (b + nlf (hR row p) 0 s k) + (1 : Int32) = nI (b + nlf (hR row p) 0 s k + 1) from nIa _ 1]
        exact nx
      · rw [k01_nz h] at nx
        rw [show nI (b + nlf (hR row p) 0 s k) + (0 : Int32) = nI (b + nlf (hR row p) 0 s k + 0) from nIa _ 0]
        exact nx
  exact ⟨cnt + 1, key cnt 0 (by omega)⟩
theorem g_knots {a n p : Nat} {row : Nat → Int32} (hn : n ≤ 3000) (hpn : p + 21 ≤ n) (ha : M a = some (kI G n row)) (hp : post (nI (kKn (hR row p) 4 0)) M) : wp_X4_knots G post a (nI p) M := by
  have e : kKn (hR row p) 4 0 = 0 + nlf (hR row p) 0 2 8 + nlf (hR row p) 0 4 4 + nlf (hR row p) 0 8 2 + nlf (hR row p) 0 16 1 := kKn_wkn _ 4 0
  rw [e] at hp
  unfold wp_X4_knots
  refine ⟨5, ?_⟩
  rw [wp_X4_knots_L4]
  refine ⟨fun z => absurd z (by decide), fun _ => g_knots13 (s := 2) (cnt := 8) hn hpn (by omega) (by decide) ha 0 ?_⟩
  rw [wp_X4_knots_L4]
  refine ⟨fun z => absurd z (by decide), fun _ => g_knots13 (s := 4) (cnt := 4) hn hpn (by omega) (by decide) ha _ ?_⟩
  rw [wp_X4_knots_L4]
  refine ⟨fun z => absurd z (by decide), fun _ => g_knots13 (s := 8) (cnt := 2) hn hpn (by omega) (by decide) ha _ ?_⟩
  rw [wp_X4_knots_L4]
  refine ⟨fun z => absurd z (by decide), fun _ => g_knots13 (s := 16) (cnt := 1) hn hpn (by omega) (by decide) ha _ ?_⟩
  rw [wp_X4_knots_L4]
  exact ⟨fun _ => hp, fun z => absurd (by decide) z⟩
end G3
