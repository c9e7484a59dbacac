/-! ===== the class: slots; what receiving would bring ===== -/
theorem remF_sl (F : kF) : (remF F).sl = F.sl := by unfold remF; split <;> rfl
theorem nz1 : vp_nar .boolean (1 : Int32) = 1 := by decide
section F5
variable {G : k_G} {M : k_M} {ad hi : Nat → Nat} {cap : Nat} {F : kF} {post : Int32 → k_M → Prop}
theorem s_X3_ifReceive {x y w : Int32} (hg : gInj ad) (ho : hOk hi) (hmc : F.S.mc ≤ 8) (hF : cF G M ad hi cap F) (hp : xPost G M ad cap (xifR F x y w, F) post) : wp_X3_ifReceive G post (ad 342) x y w M := by
  have hst := hF.st
  unfold wp_X3_ifReceive
  unfold xifR at hp
  refine ⟨_, _, hF.1, rfl, _, hst.1, s_X2_isHelper (ad := stA ad 0) hst ⟨fun h => ?_, fun h => ⟨_, _, hF.1, rfl, _, hst.1, s_X2_isMessage (ad := stA ad 0) hst ⟨fun h2 => ?_, fun h2 => ?_⟩⟩⟩⟩
  · rw [if_pos (Or.inl (k01_z.mp h))] at hp
    exact hp M hi kFr.refl ho hF
  · rw [if_neg (by rw [k01_nz h, k01_nz h2]; decide)] at hp
    obtain ⟨j, hj, rfl, -⟩ := inH_ex (k01_nz h)
    obtain ⟨m, hm, rfl⟩ := inR_ex (by omega) (k01_nz h2)
    rw [kcl (i := j) (by omega), kcl (i := m) (by omega)] at hp
    obtain ⟨q0, ⟨r1, q1, q1'⟩, ⟨r2, q2, q2'⟩, ⟨r3, q3, q3'⟩, -, -, q6, q7⟩ := hst
    obtain ⟨eo, lo, fo, o1, o2, o3, o4⟩ := q6 j hj
    obtain ⟨em, lm, fm, m1, m2, m3, m4⟩ := q7 m (by omega)
    obtain ⟨et, lt, ft, t1, t2⟩ := hF.tri
    refine ⟨_, _, hF.1, rfl, _, _, q0, rfl, _, _, _, q2, kvin hj (by omega), k_at (q2' j hj) (by omega), _, _, hF.1, rfl, _, _, q0, rfl, _, _, _, q3, kvin (show m < 8 by omega) (by omega), k_at (q3' m (by omega)) (by omega), _, _, hF.1, rfl, _, t1, ?_⟩
    refine s_X1_become t1 t2 o1 o2 (hg.ne (by omega) (by omega) (by omega)) (fun M1 g1 f1 a1 a2 a3 => ?_)
    have k1 : ∀ n, n < 350 → M1 (ad n) = M (ad n) := fun n hn => f1 _ (hg.ne (by omega) (by omega) (by omega)) (hg.ne (by omega) (by omega) (by omega))
    refine ⟨_, _, (k1 342 (by omega)).trans hF.1, rfl, _, a1, ?_⟩
    have mm1 := (k1 (38 * 0 + (22 + 2 * m)) (by omega)).trans m1
    have mm2 := (k1 (38 * 0 + (23 + 2 * m)) (by omega)).trans m2
    refine s_X1_takeOver a1 a2 mm1 mm2 (hg.ne (by omega) (by omega) (by omega)) (hg.ne (by omega) (by omega) (by omega)) (fun M2 g2 f2 b1 b2 b3 => ?_)
    have k2 : ∀ n, n < 350 → M2 (ad n) = M (ad n) := fun n hn => (f2 _ (hg.ne (by omega) (by omega) (by omega)) (hg.ne (by omega) (by omega) (by omega))).trans (k1 n hn)
    refine ⟨_, _, (k2 342 (by omega)).trans hF.1, rfl, _, _, (k2 342 (by omega)).trans hF.1, rfl, _, _, (k2 (38 * 0 + 0) (by omega)).trans q0, rfl, _, _, (k2 (38 * 0 + 1) (by omega)).trans q1, kvin hj (by omega), _, b1, ?_⟩
    rw [kcl (by omega), q1' j hj]
    refine s_X1_raise b1 b2 (fun M3 g3 f3 c2 c3 => ?_)
    have h350 : ad 350 ≠ ad 351 := hg.ne (by omega) (by omega) (by omega)
    have c1 := (f3 _ h350).trans b1
    have k3 : ∀ n, n < 350 → M3 (ad n) = M (ad n) := fun n hn => (f3 _ (hg.ne (by omega) (by omega) (by omega))).trans (k2 n hn)
    have kx : ∀ n, 351 < n → n < 354 → M3 (ad n) = M (ad n) := fun n hn h => (f3 _ (hg.ne (by omega) (by omega) (by omega))).trans ((f2 _ (hg.ne (by omega) (by omega) (by omega)) (hg.ne (by omega) (by omega) (by omega))).trans (f1 _ (hg.ne (by omega) (by omega) (by omega)) (hg.ne (by omega) (by omega) (by omega))))
    have hF3 : cF G M3 ad hi cap F := hF.side ho (fun n hn => k3 n (by omega)) (hF.pad.kept (fun n hn => k3 _ (by omega))) ⟨_, _, _, c1, c2⟩ (hF.txt.kept (kx 352 (by omega) (by omega)) (kx 353 (by omega) (by omega)))
    have fr : kFr M M3 ad := kFr.of (fun a ha => (f3 a (ha 351 (by omega))).trans ((f2 a (ha 351 (by omega)) (ha 350 (by omega))).trans (f1 a (ha 351 (by omega)) (ha 350 (by omega)))))
    have eg2 : ∀ c, c < 16 → g2 c = mx (F.S.hs j).1 (F.S.ms m).1 c := fun c hc => by
      rw [b3 c hc]
      unfold mx
      rw [a3 c hc, o3 c hc, m3 c hc]
    have eg3 : ∀ c, c < 16 → g3 c = rais (mrg (F.S.hs j) (F.S.ms m)) (F.S.sh j) c := fun c hc => by
      rw [c3 c hc]
      unfold rais
      rw [rz_cong eg2, eg2 c hc]
      rfl
    have fin : ∀ r, post r M3 → post r M3 := fun _ h => h
    have mn1 := (k3 (38 * 0 + (22 + 2 * m)) (by omega)).trans m1
    have mn2 := (k3 (38 * 0 + (23 + 2 * m)) (by omega)).trans m2
    have on1 := (k3 (38 * 0 + (6 + 2 * j)) (by omega)).trans o1
    refine ⟨fun h3 => ?_, fun h3 => ?_, fun h3 => ?_, fun h3 => ?_⟩
    · rw [if_pos h3] at hp
      refine ⟨_, mn1, s_X1_knownBeyond mn1 on1 ?_⟩
      rw [kCt_cong (q := fun i => (F.S.ms m).2 i && !((F.S.hs j).2 i)) (fun i hi => by rw [m4 i hi, o4 i hi])]
      exact hp M3 hi fr ho hF3
    · rw [if_neg (by omega), if_pos h3] at hp
      refine ⟨_, _, hF3.1, rfl, _, c1, s_X1_orderTo c1 c2 mn1 mn2 ?_⟩
      rw [ordf_cong eg3 m3]
      exact hp M3 hi fr ho hF3
    · rw [if_neg (by omega), if_neg (by omega), if_pos h3] at hp
      refine ⟨_, _, hF3.1, rfl, _, c1, s_X1_knots c1 c2 ?_⟩
      rw [kKn_cong eg3 4 0 (by decide)]
      exact hp M3 hi fr ho hF3
    · rw [if_neg (by omega), if_neg (by omega), if_neg (by omega)] at hp
      exact hp M3 hi fr ho hF3
  · rw [if_pos (Or.inr (k01_z.mp h2))] at hp
    exact hp M hi kFr.refl ho hF
end F5
