/-! ===== the law's text of a stamp, told sign by sign ===== -/
def chr (T : List Nat) (i : Nat) : Int32 := if i < T.length then nI (T.getD i 0) else -1
theorem chr_at {done R : List Nat} {x : Nat} : chr (done ++ (x :: R)) done.length = nI x := by
  have h1 : done.length < (done ++ (x :: R)).length := by
    rw [List.length_append]
    show done.length < done.length + (R.length + 1)
    omega
  unfold chr
  rw [if_pos h1]
  have := getD_r (l := done) (r := x :: R) (i := 0)
  rw [Nat.add_zero] at this
  rw [this]
  rfl
theorem chr_end (T : List Nat) : chr T T.length = -1 := if_neg (Nat.lt_irrefl _)
def tHP (G : k_G) (o : Nat) (x1 : Int32) (T : List Nat) (Wd : k_M → Nat → Prop) : Prop := ∀ (mc ms : Nat) (P : Int32 → k_M → Prop) (M : k_M) (cap i : Nat), i < 1000 → Wd M cap → (T.length ≤ cap ∨ (62 ≤ mc ∧ 8804 ≤ ms)) → (∀ M1 cap1, T.length ≤ cap1 → (T.length ≤ cap → cap1 = cap) → Wd M1 cap1 → P (chr T i) M1) → wp_X3_printed G mc ms P o x1 (nI i) M
def TS (Wd : k_M → Nat → Prop) (L mc ms : Nat) (M : k_M) (kc ks : Nat) : Prop := kc ≤ mc ∧ ks ≤ ms ∧ ∃ cap, Wd M cap ∧ (L ≤ cap ∨ (kc + 62 ≤ mc ∧ ks + 8804 ≤ ms))
def dgs (v : Nat) : Nat → List Nat
  | 0 => [48 + v / 10 ^ 0 % 10]
  | k + 1 => (48 + v / 10 ^ (k + 1) % 10) :: dgs v k
theorem digs_dgs : ∀ v, v < 256 → digs v = dgs v (if v < 10 then 0 else if v < 100 then 1 else 2) := by decide +kernel
theorem td_q : ∀ k, k < 3 → ∀ v, v < 256 → (48 : Int32) + ((nI v / nI (10 ^ k)) - (nI v / nI (10 ^ k)) / (10 : Int32) * (10 : Int32)) = nI (48 + v / 10 ^ k % 10) := by decide +kernel
theorem td_p : ∀ k, k < 3 → ¬ nI (10 ^ k) ≤ 0 := by decide +kernel
theorem td_z : ∀ k, k < 3 → ¬ nI (10 ^ k) = 0 := by decide +kernel
theorem td_s : ∀ k, k < 2 → nI (10 ^ (k + 1)) / (10 : Int32) = nI (10 ^ k) := by decide +kernel
theorem tl_mod : ∀ d, d < 5 → ∀ e, e < 17 → nI e - nI e / nI (2 ^ d) * nI (2 ^ d) = nI (e % 2 ^ d) := by decide +kernel
theorem tl_le : ∀ d, d < 5 → ∀ e, e < 17 → (e % 2 ^ d = 0 ↔ d ≤ lsz e) := by decide +kernel
theorem tl_16 : ∀ d, d < 5 → ¬ (16 : Int32) < nI (2 ^ d) := by decide +kernel
theorem tl_x2 : ∀ d, d < 5 → (2 : Int32) * nI (2 ^ d) = nI (2 ^ (d + 1)) := by decide +kernel
theorem tl_fit : ∀ c, c < 16 → ∀ k, k < 5 → k ≤ lsz c → c + 2 ^ k ≤ 16 := by decide +kernel
theorem tl_cmp : ∀ a, a < 5 → ∀ n, n < 5 → a + n < 5 → (nI (2 ^ (a + n)) ≤ nI (2 ^ a) ↔ n = 0) := by decide +kernel
theorem tl_h : ∀ d, d < 4 → nI (2 ^ (d + 1)) / (2 : Int32) = nI (2 ^ d) := by decide +kernel
theorem tl_c : ∀ c, c < 16 → c ≠ 0 → lsz c < 4 := by decide +kernel
theorem tl_c16 : ∀ d, d < 4 → ¬ (16 : Int32) ≤ nI (2 ^ d) := by decide +kernel
theorem tl_nx : ∀ c, c < 16 → ∀ d, d < 5 → d ≤ lsz c → d ≤ lsz (c + 2 ^ d) := by decide +kernel
theorem lfd_le (f : Nat → Int32) (c : Nat) : ∀ k, lfd f c k ≤ k := by
  intro k
  induction k with
  | zero => exact Nat.le_refl _
  | succ k ih =>
    rw [lfd]
    split
    · exact Nat.le_refl _
    · omega
theorem insd_0 (f : Nat → Int32) : insd f 0 = false := by
  refine ts_nt (fun h => ?_)
  unfold insd at h
  rw [kAny_iff] at h
  obtain ⟨i, hi, h⟩ := h
  rw [Nat.zero_mod] at h
  simp at h
theorem opn_dg (l : List Nat) (x : Nat) : opn (l ++ [48 + x]) = opn l := by
  rw [opn_s]
  unfold opn1
  rw [if_neg (by omega), if_neg (by omega)]
section TXT
variable {G : k_G} {Wd : k_M → Nat → Prop} {T : List Nat} {o ta mc ms j : Nat} {f : Nat → Int64} {x1 : Int32} {post : Int32 → k_M → Prop}
theorem tx_p {P : Nat → Nat → Int32 → k_M → Prop} (HP : tHP G o x1 T Wd) {M : k_M} {kc ks i : Nat} (st : TS Wd T.length mc ms M kc ks) (hi : i < 1000) (hp : ∀ kc1 ks1 M1, TS Wd T.length mc ms M1 kc1 ks1 → (∃ cap1, Wd M1 cap1 ∧ T.length ≤ cap1) → P kc1 ks1 (chr T i) M1) : ∃ mc1 ms1 : Nat, kc + mc1 ≤ mc ∧ ks + ms1 ≤ ms ∧ wp_X3_printed G mc1 ms1 (P (kc + mc1) (ks + ms1)) o x1 (nI i) M := by
  obtain ⟨h1, h2, cap, hW, hB⟩ := st
  by_cases hf : T.length ≤ cap
  · exact ⟨0, 0, h1, h2, HP 0 0 _ M cap i hi hW (Or.inl hf) (fun M1 cap1 a b c => hp _ _ _ ⟨h1, h2, cap1, c, Or.inl a⟩ ⟨cap1, c, a⟩)⟩
  · obtain ⟨b1, b2⟩ := hB.resolve_left hf
    exact ⟨62, 8804, b1, b2, HP 62 8804 _ M cap i hi hW (Or.inr ⟨Nat.le_refl _, Nat.le_refl _⟩) (fun M1 cap1 a b c => hp _ _ _ ⟨b1, b2, cap1, c, Or.inl a⟩ ⟨cap1, c, a⟩)⟩
theorem tx_l {done R : List Nat} (h9 : T.length < 1000) (hT : T = done ++ R) : done.length < 1000 := by
  rw [hT, List.length_append] at h9
  omega
theorem tx_n (done : List Nat) (x : Nat) : nI done.length + (1 : Int32) = nI (done ++ [x]).length := by
  rw [kns, List.length_append]; rfl
theorem tx_b257 {K8 : Nat → Int32 → Nat → Int32 → Int32 → Int32 → Nat → Nat → k_M → Prop} (HP : tHP G o x1 T Wd) (HO : ∀ M cap, Wd M cap → ∃ fs, M o = some (kO 4 fs)) (h9 : T.length < 1000) {M : k_M} {kc ks c e : Nat} {done R : List Nat} (hT : T = done ++ (lcm e ++ R)) (he : e ≤ 16) (st : TS Wd T.length mc ms M kc ks)
    (hK : ∀ M kc ks, TS Wd T.length mc ms M kc ks → K8 o x1 ta (nI (done ++ lcm e).length) (opn (done ++ lcm e)) (nI c + (1 : Int32)) kc ks M) : wp_L_text_b257 G mc ms post K8 o x1 ta (nI done.length) (opn done) (nI c) (nI e) kc ks M := by
  unfold wp_L_text_b257
  refine ⟨fun h0 => ?_, fun h0 => ?_⟩
  · have h1 : ¬ e < 16 := fun z => kge (N := 16) z (by decide) h0
    have el : lcm e = [] := if_neg h1
    have := hK M kc ks st
    rw [el, List.append_nil] at this
    exact this
  · have h1 : e < 16 := by
      rcases Nat.lt_or_ge e 16 with z | z
      · exact z
      · exact absurd (nI_le (a := 16) z (by omega)) h0
    have el : lcm e = [44] := if_pos h1
    rw [el] at hT hK
    obtain ⟨cap, hW, -⟩ := st.2.2
    obtain ⟨fs, ho⟩ := HO _ _ hW
    refine ⟨fs, ho, tx_p (P := fun kc1 ks1 r M1 => ((r = (44 : Int32) → K8 o x1 ta (nI done.length + (1 : Int32)) (opn done) (nI c + (1 : Int32)) kc1 ks1 M1) ∧ (¬ r = (44 : Int32) → kc1 ≤ mc ∧ ks1 ≤ ms ∧ post (-1 : Int32) M1))) HP st (tx_l h9 hT) (fun kc1 ks1 M1 st1 hx => ?_)⟩
    have ec : chr T done.length = 44 := by rw [hT]; exact chr_at
    rw [ec]
    refine ⟨fun _ => ?_, fun z => absurd rfl z⟩
    have := hK M1 kc1 ks1 st1
    rw [← tx_n, opn_s] at this
    exact this
theorem tx_L214 {K8 : Nat → Int32 → Nat → Int32 → Int32 → Int32 → Nat → Nat → k_M → Prop} (HP : tHP G o x1 T Wd) (HO : ∀ M cap, Wd M cap → ∃ fs, M o = some (kO 4 fs)) (h9 : T.length < 1000) {c e : Nat} {R : List Nat} (he : e ≤ 16) :
    ∀ (n d : Nat) (done : List Nat) (M : k_M) (kc ks : Nat), d + n = lsz e + 1 → T = done ++ (List.replicate n 41 ++ (lcm e ++ R)) → TS Wd T.length mc ms M kc ks →
    (∀ M kc ks, TS Wd T.length mc ms M kc ks → K8 o x1 ta (nI (done ++ (List.replicate n 41 ++ lcm e)).length) (opn (done ++ (List.replicate n 41 ++ lcm e))) (nI c + (1 : Int32)) kc ks M) → wp_L_text_L214 G mc ms post K8 (n + 1) o x1 ta (nI done.length) (opn done) (nI c) (nI e) (nI (2 ^ d)) kc ks M := by
  intro n
  have h4 : lsz e ≤ 4 := tn_sz4 e (by omega)
  induction n with
  | zero =>
    intro d done M kc ks hd hT st hK
    rw [wp_L_text_L214]
    have hb := tx_b257 (post := post) (ta := ta) (c := c) HP HO h9 (R := R) hT he st hK
    refine ⟨fun _ => hb, fun h0 => ?_⟩
    have hd5 : d < 5 := by
      rcases Nat.lt_or_ge d 5 with z | z
      · exact z
      · have : d = 5 := by omega
        subst this
        exact absurd (show (16 : Int32) < nI (2 ^ 5) by decide +kernel) h0
    refine ⟨li_nz d hd5, fun _ => hb, fun h1 => ?_⟩
    rw [tl_mod d hd5 e (by omega)] at h1
    have h2 : e % 2 ^ d = 0 := (nI_eq (by have := Nat.mod_le e (2 ^ d); omega) (by decide)).mp h1
    have := (tl_le d hd5 e (by omega)).mp h2
    omega
  | succ n ih =>
    intro d done M kc ks hd hT st hK
    rw [wp_L_text_L214]
    have hd5 : d < 5 := by omega
    refine ⟨fun h0 => absurd h0 (tl_16 d hd5), fun _ => ⟨li_nz d hd5, fun h1 => ?_, fun _ => ?_⟩⟩
    · rw [tl_mod d hd5 e (by omega), (tl_le d hd5 e (by omega)).mpr (by omega)] at h1
      exact absurd rfl h1
    · obtain ⟨cap, hW, -⟩ := st.2.2
      obtain ⟨fs, ho⟩ := HO _ _ hW
      refine ⟨fs, ho, tx_p (P := fun kc1 ks1 r M1 => ((r = (41 : Int32) → (wp_L_text_L214 G mc ms post K8 (n + 1)) o x1 ta (nI done.length + (1 : Int32)) (opn done + (-1 : Int32)) (nI c) (nI e) (nI (2 ^ d) * (2 : Int32)) kc1 ks1 M1) ∧ (¬ r = (41 : Int32) → kc1 ≤ mc ∧ ks1 ≤ ms ∧ post (-1 : Int32) M1))) HP st (tx_l h9 hT) (fun kc1 ks1 M1 st1 hx => ?_)⟩
      rw [List.replicate_succ] at hT hK
      have ec : chr T done.length = 41 := by rw [hT]; exact chr_at
      rw [ec]
      refine ⟨fun _ => ?_, fun z => absurd rfl z⟩
      have ea : ∀ X : List Nat, done ++ ((41 :: List.replicate n 41) ++ X) = (done ++ [41]) ++ (List.replicate n 41 ++ X) := fun X => by simp
      rw [ea] at hT
      have := ih (d + 1) (done ++ [41]) M1 kc1 ks1 (by omega) hT st1 (fun M kc ks s => by
        have := hK M kc ks s
        rw [ea] at this
        exact this)
      rw [← tx_n, opn_s, ← li_x2 d hd5] at this
      exact this
theorem tx_L161 {K8 : Nat → Int32 → Nat → Int32 → Int32 → Int32 → Nat → Nat → k_M → Prop} (HP : tHP G o x1 T Wd) (HO : ∀ M cap, Wd M cap → ∃ fs, M o = some (kO 4 fs)) (h9 : T.length < 1000) {v : Nat} {R : List Nat} {x5 x7 : Int32} (hv : v < 256) :
    ∀ (k : Nat) (done : List Nat) (M : k_M) (kc ks : Nat), k < 3 → T = done ++ (dgs v k ++ R) → TS Wd T.length mc ms M kc ks →
    (∀ M kc ks, TS Wd T.length mc ms M kc ks → ∃ k25, wp_L_text_L214 G mc ms post K8 k25 o x1 ta (nI (done ++ dgs v k).length) (opn (done ++ dgs v k)) x5 (x5 + x7) ((2 : Int32) * x7) kc ks M) → wp_L_text_L161 G mc ms post K8 (k + 2) o x1 ta (nI done.length) (opn done) x5 x7 (nI v) (nI (10 ^ k)) kc ks M := by
  intro k
  induction k with
  | zero =>
    intro done M kc ks hk hT st hK
    rw [wp_L_text_L161]
    refine ⟨fun h0 => absurd h0 (td_p 0 hk), fun _ => ?_⟩
    obtain ⟨cap, hW, -⟩ := st.2.2
    obtain ⟨fs, ho⟩ := HO _ _ hW
    refine ⟨fs, ho, tx_p (P := fun kc1 ks1 r M1 => (¬ nI (10 ^ 0) = 0 ∧ ((r = ((48 : Int32) + ((nI v / nI (10 ^ 0)) - (nI v / nI (10 ^ 0)) / (10 : Int32) * (10 : Int32))) → (wp_L_text_L161 G mc ms post K8 1) o x1 ta (nI done.length + (1 : Int32)) (opn done) x5 x7 (nI v) (nI (10 ^ 0) / (10 : Int32)) kc1 ks1 M1) ∧ (¬ r = ((48 : Int32) + ((nI v / nI (10 ^ 0)) - (nI v / nI (10 ^ 0)) / (10 : Int32) * (10 : Int32))) → kc1 ≤ mc ∧ ks1 ≤ ms ∧ post (-1 : Int32) M1)))) HP st (tx_l h9 hT) (fun kc1 ks1 M1 st1 hx => ⟨td_z 0 hk, ?_⟩)⟩
    rw [td_q 0 hk v hv]
    have ec : chr T done.length = nI (48 + v / 10 ^ 0 % 10) := by rw [hT]; exact chr_at
    rw [ec]
    refine ⟨fun _ => ?_, fun z => absurd rfl z⟩
    rw [wp_L_text_L161]
    refine ⟨fun _ => ?_, fun z => absurd (by decide +kernel) z⟩
    have := hK M1 kc1 ks1 st1
    rw [show dgs v 0 = [48 + v / 10 ^ 0 % 10] from rfl, ← tx_n, opn_dg] at this
    exact this
  | succ k ih =>
    intro done M kc ks hk hT st hK
    rw [wp_L_text_L161]
    refine ⟨fun h0 => absurd h0 (td_p (k + 1) hk), fun _ => ?_⟩
    obtain ⟨cap, hW, -⟩ := st.2.2
    obtain ⟨fs, ho⟩ := HO _ _ hW
    refine ⟨fs, ho, tx_p (P := fun kc1 ks1 r M1 => (¬ nI (10 ^ (k + 1)) = 0 ∧ ((r = ((48 : Int32) + ((nI v / nI (10 ^ (k + 1))) - (nI v / nI (10 ^ (k + 1))) / (10 : Int32) * (10 : Int32))) → (wp_L_text_L161 G mc ms post K8 (k + 2)) o x1 ta (nI done.length + (1 : Int32)) (opn done) x5 x7 (nI v) (nI (10 ^ (k + 1)) / (10 : Int32)) kc1 ks1 M1) ∧ (¬ r = ((48 : Int32) + ((nI v / nI (10 ^ (k + 1))) - (nI v / nI (10 ^ (k + 1))) / (10 : Int32) * (10 : Int32))) → kc1 ≤ mc ∧ ks1 ≤ ms ∧ post (-1 : Int32) M1)))) HP st (tx_l h9 hT) (fun kc1 ks1 M1 st1 hx => ⟨td_z (k + 1) hk, ?_⟩)⟩
    rw [td_q (k + 1) hk v hv, td_s k (by omega)]
    have ed : dgs v (k + 1) = (48 + v / 10 ^ (k + 1) % 10) :: dgs v k := rfl
    rw [ed] at hT hK
    have ec : chr T done.length = nI (48 + v / 10 ^ (k + 1) % 10) := by rw [hT]; exact chr_at
    rw [ec]
    refine ⟨fun _ => ?_, fun z => absurd rfl z⟩
    have := ih (done ++ [48 + v / 10 ^ (k + 1) % 10]) M1 kc1 ks1 (by omega) (by rw [hT]; simp) st1 (fun M kc ks s => by
      have := hK M kc ks s
      rw [show done ++ ((48 + v / 10 ^ (k + 1) % 10) :: dgs v k) = done ++ [48 + v / 10 ^ (k + 1) % 10] ++ dgs v k by simp] at this
      exact this)
    rw [← tx_n, opn_dg] at this
    exact this
theorem tx_L90 {K8 : Nat → Int32 → Nat → Int32 → Int32 → Int32 → Nat → Nat → k_M → Prop} (HP : tHP G o (nI j) T Wd) (HO : ∀ M cap, Wd M cap → ∃ fs, M o = some (kO 4 fs)) (HT : ∀ M cap, Wd M cap → M ta = some (kJ G 34 f)) (h9 : T.length < 1000) {c lf v m : Nat} {R : List Nat} (hj : j < 17) (hc : c < 16) (hlf : lf ≤ lsz c) (hv : hgt f j c = nI v) (hv2 : v < 256) (hle : lf + m = lsz (c + 2 ^ lf)) :
    ∀ (n : Nat) (done : List Nat) (M : k_M) (kc ks : Nat), lf + n ≤ lsz c → T = done ++ (List.replicate n 40 ++ (digs v ++ (List.replicate m 41 ++ (lcm (c + 2 ^ lf) ++ R)))) → TS Wd T.length mc ms M kc ks →
    (∀ M kc ks, TS Wd T.length mc ms M kc ks → K8 o (nI j) ta (nI (done ++ (List.replicate n 40 ++ (digs v ++ (List.replicate m 41 ++ lcm (c + 2 ^ lf))))).length) (opn (done ++ (List.replicate n 40 ++ (digs v ++ (List.replicate m 41 ++ lcm (c + 2 ^ lf)))))) (nI c + (1 : Int32)) kc ks M) → wp_L_text_L90 G mc ms post K8 (n + 1) o (nI j) ta (nI done.length) (opn done) (nI c) (nI (2 ^ lf)) (nI (2 ^ (lf + n))) kc ks M := by
  intro n
  have h4 : lsz c ≤ 4 := tn_sz4 c (by omega)
  have hfit := tl_fit c hc lf (by omega) hlf
  induction n with
  | zero =>
    intro done M kc ks hn hT st hK
    rw [wp_L_text_L90]
    refine ⟨fun _ => ?_, fun h0 => absurd ((tl_cmp lf (by omega) 0 (by omega) (by omega)).mpr rfl) h0⟩
    have st0 := st
    obtain ⟨h1, h2, cap, hW, hB⟩ := st
    refine ⟨h1, h2, s_L_height (HT _ _ hW) hj hc ?_⟩
    rw [hv]
    rw [digs_dgs v hv2, List.replicate_zero, List.nil_append] at hT hK
    have hcont : ∀ k, k < 3 → (if v < 10 then 0 else if v < 100 then 1 else 2) = k → ∃ k24, wp_L_text_L161 G mc ms post K8 k24 o (nI j) ta (nI done.length) (opn done) (nI c) (nI (2 ^ lf)) (nI v) (nI (10 ^ k)) kc ks M := by
      intro k hk ek
      rw [ek] at hT hK
      refine ⟨k + 2, tx_L161 HP HO h9 hv2 k done M kc ks hk hT st0 (fun M kc ks s => ?_)⟩
      refine ⟨m + 1, ?_⟩
      rw [nI_add, tl_x2 lf (by omega)]
      refine tx_L214 HP HO h9 (R := R) hfit m (lf + 1) (done ++ dgs v k) M kc ks (by omega) (by rw [hT, List.append_assoc]) s (fun M kc ks s => ?_)
      have := hK M kc ks s
      rw [← List.append_assoc done] at this
      exact this
    refine ⟨fun h99 => ⟨fun h10 => ?_, fun h10 => ?_⟩, fun h99 => ?_⟩
    · have hv3 : v < 10 := by
        rcases Nat.lt_or_ge v 10 with z | z
        · exact z
        · exact absurd h10 (kge (N := v) (i := 9) (by omega) (by omega))
      exact hcont 0 (by omega) (if_pos hv3)
    · have hv3 : ¬ v < 10 := fun z => h10 (nI_le (b := 9) (by omega) (by omega))
      have hv4 : v < 100 := by
        rcases Nat.lt_or_ge v 100 with z | z
        · exact z
        · exact absurd h99 (kge (N := v) (i := 99) (by omega) (by omega))
      exact hcont 1 (by omega) (by rw [if_neg hv3, if_pos hv4])
    · have hv4 : ¬ v < 100 := fun z => h99 (nI_le (b := 99) (by omega) (by omega))
      exact hcont 2 (by omega) (by rw [if_neg (by omega), if_neg hv4])
  | succ n ih =>
    intro done M kc ks hn hT st hK
    rw [wp_L_text_L90]
    refine ⟨fun h0 => absurd ((tl_cmp lf (by omega) (n + 1) (by omega) (by omega)).mp h0) (by omega), fun _ => ?_⟩
    obtain ⟨cap, hW, -⟩ := st.2.2
    obtain ⟨fs, ho⟩ := HO _ _ hW
    refine ⟨fs, ho, tx_p (P := fun kc1 ks1 r M1 => ((r = (40 : Int32) → (wp_L_text_L90 G mc ms post K8 (n + 1)) o (nI j) ta (nI done.length + (1 : Int32)) (opn done + (1 : Int32)) (nI c) (nI (2 ^ lf)) (nI (2 ^ (lf + (n + 1))) / (2 : Int32)) kc1 ks1 M1) ∧ (¬ r = (40 : Int32) → kc1 ≤ mc ∧ ks1 ≤ ms ∧ post (-1 : Int32) M1))) HP st (tx_l h9 hT) (fun kc1 ks1 M1 st1 hx => ?_)⟩
    rw [List.replicate_succ] at hT hK
    have ec : chr T done.length = 40 := by rw [hT]; exact chr_at
    rw [ec]
    refine ⟨fun _ => ?_, fun z => absurd rfl z⟩
    have e2 : nI (2 ^ (lf + (n + 1))) / (2 : Int32) = nI (2 ^ (lf + n)) := by rw [← Nat.add_assoc]; exact tl_h (lf + n) (by omega)
    rw [e2]
    have ea : ∀ X : List Nat, done ++ ((40 :: List.replicate n 40) ++ X) = (done ++ [40]) ++ (List.replicate n 40 ++ X) := fun X => by simp
    rw [ea] at hT
    have := ih (done ++ [40]) M1 kc1 ks1 (by omega) hT st1 (fun M kc ks s => by
      have := hK M kc ks s
      rw [ea] at this
      exact this)
    rw [← tx_n, opn_s] at this
    exact this
theorem tx_after {K8 : Nat → Int32 → Nat → Int32 → Int32 → Int32 → Nat → Nat → k_M → Prop} (HP : tHP G o (nI j) T Wd) (HO : ∀ M cap, Wd M cap → ∃ fs, M o = some (kO 4 fs)) (HT : ∀ M cap, Wd M cap → M ta = some (kJ G 34 f)) (h9 : T.length < 1000) {c : Nat} {done R : List Nat} {M : k_M} {kc ks : Nat} (hj : j < 17) (hc : c < 16) (hin : insd (hgt f j) c = false) (hT : T = done ++ (Ec (hgt f j) c ++ R)) (st : TS Wd T.length mc ms M kc ks)
    (hK : ∀ M kc ks, TS Wd T.length mc ms M kc ks → K8 o (nI j) ta (nI (done ++ Ec (hgt f j) c).length) (opn (done ++ Ec (hgt f j) c)) (nI c + (1 : Int32)) kc ks M) : ∃ k18, wp_L_text_L90 G mc ms post K8 k18 o (nI j) ta (nI done.length) (opn done) (nI c) (nI (2 ^ lfc (hgt f j) c)) (nI (2 ^ lsz c)) kc ks M := by
  have hlf : lfc (hgt f j) c ≤ lsz c := lfd_le _ _ _
  obtain ⟨n, hn⟩ : ∃ n, lfc (hgt f j) c + n = lsz c := ⟨lsz c - lfc (hgt f j) c, by omega⟩
  have h4 : lsz c ≤ 4 := tn_sz4 c (by omega)
  have hle : lfc (hgt f j) c ≤ lsz (c + 2 ^ lfc (hgt f j) c) := tl_nx c hc _ (by omega) hlf
  obtain ⟨m, hm⟩ : ∃ m, lfc (hgt f j) c + m = lsz (c + 2 ^ lfc (hgt f j) c) := ⟨lsz (c + 2 ^ lfc (hgt f j) c) - lfc (hgt f j) c, by omega⟩
  have hE : Ec (hgt f j) c = List.replicate n 40 ++ (digs (uI (hgt f j c)) ++ (List.replicate m 41 ++ lcm (c + 2 ^ lfc (hgt f j) c))) := by
    unfold Ec
    rw [if_neg (by rw [hin]; decide), show lsz c - lfc (hgt f j) c = n by omega, show lsz (c + 2 ^ lfc (hgt f j) c) - lfc (hgt f j) c = m by omega, List.append_assoc, List.append_assoc]
  rw [hE] at hK hT
  refine ⟨n + 1, ?_⟩
  have := tx_L90 (post := post) (K8 := K8) HP HO HT h9 (R := R) hj hc hlf (nI_uI _).symm (hgt_lt f j c) hm n done M kc ks (Nat.le_of_eq hn) (by rw [hT]; simp only [List.append_assoc]) st hK
  rw [hn] at this
  exact this
theorem tx_L40 {K8 : Nat → Int32 → Nat → Int32 → Int32 → Int32 → Nat → Nat → k_M → Prop} (HP : tHP G o (nI j) T Wd) (HO : ∀ M cap, Wd M cap → ∃ fs, M o = some (kO 4 fs)) (HT : ∀ M cap, Wd M cap → M ta = some (kJ G 34 f)) (h9 : T.length < 1000) {c : Nat} {done R : List Nat} {M : k_M} {kc ks : Nat} (hj : j < 17) (hc : c < 16) (hT : T = done ++ (Ec (hgt f j) c ++ R)) (st : TS Wd T.length mc ms M kc ks)
    (hK : ∀ M kc ks, TS Wd T.length mc ms M kc ks → K8 o (nI j) ta (nI (done ++ Ec (hgt f j) c).length) (opn (done ++ Ec (hgt f j) c)) (nI c + (1 : Int32)) kc ks M) :
    ∀ k, k ≤ lsz c → lfd (hgt f j) c k = lfc (hgt f j) c → wp_L_text_L40 G mc ms post K8 (k + 1) o (nI j) ta (nI done.length) (opn done) (nI c) (nI (2 ^ lsz c)) (nI (2 ^ k)) kc ks M := by
  intro k
  have h4 : lsz c ≤ 4 := tn_sz4 c (by omega)
  obtain ⟨b1, b2, cap, hW, hB⟩ := id st
  have fin : ∀ k, lfc (hgt f j) c = k → ((nI c ≤ 0 → ∃ k18, wp_L_text_L90 G mc ms post K8 k18 o (nI j) ta (nI done.length) (opn done) (nI c) (nI (2 ^ k)) (nI (2 ^ lsz c)) kc ks M) ∧ (¬ nI c ≤ 0 → (((16 : Int32) ≤ nI (2 ^ lsz c) → ∃ k62, wp_L_text_L90 G mc ms post K8 k62 o (nI j) ta (nI done.length) (opn done) (nI c) (nI (2 ^ k)) (nI (2 ^ lsz c)) kc ks M) ∧ (¬ (16 : Int32) ≤ nI (2 ^ lsz c) → (kc ≤ mc ∧ ks ≤ ms ∧ wp_L_inside G (fun r63 M64 => ((r63 = 0 → ∃ k68, wp_L_text_L90 G mc ms post K8 k68 o (nI j) ta (nI done.length) (opn done) (nI c) (nI (2 ^ k)) (nI (2 ^ lsz c)) kc ks M64) ∧ (¬ r63 = 0 → K8 o (nI j) ta (nI done.length) (opn done) (nI c + (1 : Int32)) kc ks M64))) (nI j) (nI c) ta M))))) := by
    intro k ek
    subst ek
    refine ⟨fun h0 => ?_, fun h0 => ⟨fun h1 => ?_, fun h1 => ⟨b1, b2, s_L_inside (HT _ _ hW) hj hc ⟨fun h2 => ?_, fun h2 => ?_⟩⟩⟩⟩
    · have : c = 0 := by
        rcases Nat.eq_zero_or_pos c with z | z
        · exact z
        · exact absurd h0 (kge (N := c) (i := 0) z (by omega))
      subst this
      exact tx_after HP HO HT h9 hj hc (insd_0 _) hT st hK
    · have hc0 : c ≠ 0 := fun z => h0 (by rw [z]; decide +kernel)
      exact absurd h1 (tl_c16 _ (tl_c c hc hc0))
    · exact tx_after HP HO HT h9 hj hc (k01_z.mp h2) hT st hK
    · have hi := k01_nz h2
      have hE : Ec (hgt f j) c = [] := by unfold Ec; rw [if_pos hi]
      have := hK M kc ks st
      rw [hE, List.append_nil] at this
      exact this
  induction k with
  | zero =>
    intro hk he
    rw [wp_L_text_L40]
    refine ⟨b1, b2, s_L_alike (s := 2 ^ 0) (HT _ _ hW) hj (Nat.le_refl _) (tl_fit c hc 0 (by omega) hk) ⟨fun _ => fin 0 he.symm, fun h0 => ?_⟩⟩
    exact absurd (k01_z.mp h0) (by rw [leaf_1]; decide)
  | succ k ih =>
    intro hk he
    rw [wp_L_text_L40]
    rw [lfd] at he
    refine ⟨b1, b2, s_L_alike (s := 2 ^ (k + 1)) (HT _ _ hW) hj (li_pos _) (tl_fit c hc (k + 1) (by omega) hk) ⟨fun h0 => ?_, fun h0 => ?_⟩⟩
    · rw [if_pos (k01_nz h0)] at he
      exact fin (k + 1) he.symm
    · rw [if_neg (by rw [k01_z.mp h0]; decide)] at he
      rw [tl_h k (by omega)]
      exact ih (by omega) he
theorem tx_L19 {K8 : Nat → Int32 → Nat → Int32 → Int32 → Int32 → Nat → Nat → k_M → Prop} (HP : tHP G o (nI j) T Wd) (HO : ∀ M cap, Wd M cap → ∃ fs, M o = some (kO 4 fs)) (HT : ∀ M cap, Wd M cap → M ta = some (kJ G 34 f)) (h9 : T.length < 1000) {c : Nat} {done R : List Nat} {M : k_M} {kc ks : Nat} (hj : j < 17) (hc : c < 16) (hT : T = done ++ (Ec (hgt f j) c ++ R)) (st : TS Wd T.length mc ms M kc ks)
    (hK : ∀ M kc ks, TS Wd T.length mc ms M kc ks → K8 o (nI j) ta (nI (done ++ Ec (hgt f j) c).length) (opn (done ++ Ec (hgt f j) c)) (nI c + (1 : Int32)) kc ks M) :
    ∀ k, k < 5 → lsz c ≤ k → wp_L_text_L19 G mc ms post K8 (k + 1) o (nI j) ta (nI done.length) (opn done) (nI c) (nI (2 ^ k)) kc ks M := by
  intro k
  induction k with
  | zero =>
    intro hk hl
    have e0 : lsz c = 0 := by omega
    rw [wp_L_text_L19]
    refine ⟨li_nz 0 hk, fun _ => ⟨1, ?_⟩, fun h0 => absurd ?_ h0⟩
    · have := tx_L40 (post := post) HP HO HT h9 hj hc hT st hK 0 (Nat.zero_le _) (by unfold lfc; rw [e0])
      rw [e0] at this
      exact this
    · rw [tl_mod 0 hk c (by omega), Nat.pow_zero, Nat.mod_one]; rfl
  | succ k ih =>
    intro hk hl
    rw [wp_L_text_L19]
    refine ⟨li_nz (k + 1) hk, fun h0 => ⟨k + 2, ?_⟩, fun h0 => ?_⟩
    · rw [tl_mod (k + 1) hk c (by omega)] at h0
      have h2 : c % 2 ^ (k + 1) = 0 := (nI_eq (by have := Nat.mod_le c (2 ^ (k + 1)); omega) (by decide)).mp h0
      have e0 : lsz c = k + 1 := Nat.le_antisymm hl ((tl_le (k + 1) hk c (by omega)).mp h2)
      have := tx_L40 (post := post) HP HO HT h9 hj hc hT st hK (k + 1) (by omega) (by unfold lfc; rw [e0])
      rw [e0] at this
      exact this
    · rw [tl_h k (by omega)]
      refine ih (by omega) ?_
      rcases Nat.lt_or_ge k (lsz c) with z | z
      · have e0 : lsz c = k + 1 := by omega
        refine absurd ?_ h0
        rw [tl_mod (k + 1) hk c (by omega), (tl_le (k + 1) hk c (by omega)).mpr (by omega)]; rfl
      · exact z
theorem catE_1 (h : Nat → Int32) (c n : Nat) : catE h 0 (c + (n + 1)) = catE h 0 c ++ (Ec h c ++ catE h (c + 1) n) := by
  rw [catE_add, show n + 1 = 1 + n by omega, catE_add, Nat.zero_add]
  rfl
theorem tx_L8 (HP : tHP G o (nI j) T Wd) (HO : ∀ M cap, Wd M cap → ∃ fs, M o = some (kO 4 fs)) (HT : ∀ M cap, Wd M cap → M ta = some (kJ G 34 f)) (h9 : T.length < 1000) (hj : j < 17) (hT : T = catE (hgt f j) 0 16) (hop : opn T = 0)
    (hp : ∀ M cap, Wd M cap → T.length ≤ cap → post (nI T.length) M) :
    ∀ (n c : Nat), c + n = 16 → ∀ (M : k_M) (kc ks : Nat), TS Wd T.length mc ms M kc ks → wp_L_text_L8 G mc ms post (n + 1) o (nI j) ta (nI (catE (hgt f j) 0 c).length) (opn (catE (hgt f j) 0 c)) (nI c) kc ks M := by
  intro n
  induction n with
  | zero =>
    intro c hc M kc ks st
    have : c = 16 := by omega
    subst this
    rw [← hT, hop, wp_L_text_L8]
    refine ⟨fun _ => ⟨fun h0 => absurd rfl h0, fun _ => ?_⟩, fun h0 => absurd (by decide) h0⟩
    obtain ⟨cap, hW, -⟩ := st.2.2
    obtain ⟨fs, ho⟩ := HO _ _ hW
    refine ⟨fs, ho, tx_p (P := fun kc1 ks1 r M1 => ((¬ r = (-1 : Int32) → kc1 ≤ mc ∧ ks1 ≤ ms ∧ post (-1 : Int32) M1) ∧ (r = (-1 : Int32) → kc1 ≤ mc ∧ ks1 ≤ ms ∧ post (nI T.length) M1))) HP st h9 (fun kc1 ks1 M1 st1 hx => ?_)⟩
    rw [chr_end]
    obtain ⟨cap1, hW1, hL1⟩ := hx
    exact ⟨fun z => absurd rfl z, fun _ => ⟨st1.1, st1.2.1, hp M1 cap1 hW1 hL1⟩⟩
  | succ n ih =>
    intro c hc M kc ks st
    rw [wp_L_text_L8]
    refine ⟨fun h0 => absurd h0 (kge (N := 16) (by omega) (by decide)), fun _ => ⟨5, ?_⟩⟩
    refine tx_L19 HP HO HT h9 (R := catE (hgt f j) (c + 1) n) hj (by omega) (by rw [hT, ← catE_1, hc]) st (fun M kc ks s => ?_) 4 (by omega) (tn_sz4 c (by omega))
    have := ih (c + 1) (by omega) M kc ks s
    rw [show catE (hgt f j) 0 (c + 1) = catE (hgt f j) 0 c ++ Ec (hgt f j) (0 + c) from rfl, Nat.zero_add, ← kns] at this
    exact this
end TXT
section TXT2
variable {G : k_G} {M : k_M} {o sa ta ka qa wa cap : Nat} {F : kF} {s : Nat → Int32} {f g : Nat → Int64} {q w : Nat → Int32} {post : Int32 → k_M → Prop}
theorem s_L_text {j mc ms : Nat} (h : W5 G M o sa ta ka qa wa cap F s f g q w) (hB : (tx (F.S.hs j).1 4 0).length ≤ cap ∨ (62 ≤ mc ∧ 8804 ≤ ms)) (hj : j < 8) (hl : F.S.sh j ≠ 0) (hb : ∀ c, c < 16 → uI ((F.S.hs j).1 c) < 1000) (he : ∀ c, c < 16 → hgt f j c = (F.S.hs j).1 c)
    (hp : ∀ M1 cap', (tx (F.S.hs j).1 4 0).length ≤ cap' → W5 G M1 o sa ta ka qa wa cap' F s f g q w → post (nI (tx (F.S.hs j).1 4 0).length) M1) : wp_L_text G mc ms post o (nI j) ta M := by
  have eT : tx (F.S.hs j).1 4 0 = catE (hgt f j) 0 16 := by
    rw [catE_tx]
    exact (tx_cong he 4 0 (by decide)).symm
  have hlen : (tx (F.S.hs j).1 4 0).length ≤ 93 := tx_len _ 4 0
  have hop : opn (tx (F.S.hs j).1 4 0) = 0 := opn_all _
  have HP : tHP G o (nI j) (tx (F.S.hs j).1 4 0) (fun M cap => W5 G M o sa ta ka qa wa cap F s f g q w) := fun mc ms P M cap i hi hW hB hp => w_printed hW hB hj hl hi hb hp
  unfold wp_L_text
  refine ⟨17, tx_L8 HP (fun M cap h => h.obj) (fun M cap h => h.L.2.1) (by omega) (by omega) eT hop (fun M1 cap1 hW hL => hp M1 cap1 hL hW) 16 0 (by omega) M 0 0 ⟨Nat.zero_le _, Nat.zero_le _, cap, h, by rw [Nat.zero_add, Nat.zero_add]; exact hB⟩⟩
end TXT2
