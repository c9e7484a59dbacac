/-! ===== the reference: fault, orderToPad, and how it is made ===== -/
section G13
variable {G : k_G} {M : k_M} {am : Nat → Nat} {F : kF} {post : Int32 → k_M → Prop}
theorem g_findFault (hI : mInj am) (hok : okF F) (hM : mM G M am F) (hp : ∀ M1 : k_M, mFr M M1 am → mM G M1 am F → (∃ to, M1 (am 7) = some (kI G 21 to) ∧ (pFault F.ch F.pn = -6 → ∀ c, c < 16 → hR to 0 c = pHf F.ch F.pn c)) → post (pFault F.ch F.pn) M1) : wp_X4_findFault G post (am 0) M := by
  obtain ⟨⟨tl, h0⟩, ⟨st, h1, hs⟩, ⟨a2, c2, d2⟩, ⟨a3, c3, d3⟩, ⟨a4, c4, d4⟩, ⟨pd, h5, h5'⟩, ⟨a6, c6⟩, ⟨a7, c7⟩, ⟨a8, c8⟩, ⟨a9, c9⟩, ⟨a10, c10⟩⟩ := hM
  refine ⟨17, f_loop hI hok.2.2.2.2.1 hok.2.2.2.2.2 h0 h5 h5' ?_ 17 0 0 0 (nI 16) M kp0 (by omega) ⟨rfl, Nat.zero_le _, by omega, Or.inl ⟨by omega, rfl, rfl, rfl, rfl, fun _ _ _ _ => rfl, ⟨a7, c7, fun c hc => absurd hc (Nat.not_lt_zero c)⟩, ⟨a8, c8, fun c hc => absurd hc (Nat.not_lt_zero c)⟩, a9, c9, fun c hc => absurd hc (Nat.not_lt_zero c)⟩⟩⟩
  intro M1 f ⟨to, t1, t2⟩ ⟨z, z1⟩ ⟨hv, x1⟩
  have e : ∀ k, k < 11 → k ≠ 7 → k ≠ 8 → k ≠ 9 → M1 (am k) = M (am k) := fun k k1 k7 k8 k9 => f _ (hI.ne k1 (by omega) k7) (hI.ne k1 (by omega) k8) (hI.ne k1 (by omega) k9)
  refine hp M1 (fun a ha => f a (ha 7 (by omega)) (ha 8 (by omega)) (ha 9 (by omega))) ⟨⟨tl, (e 0 (by omega) (by omega) (by omega) (by omega)).trans h0⟩, ⟨st, (e 1 (by omega) (by omega) (by omega) (by omega)).trans h1, hs⟩, ⟨a2, (e 2 (by omega) (by omega) (by omega) (by omega)).trans c2, d2⟩, ⟨a3, (e 3 (by omega) (by omega) (by omega) (by omega)).trans c3, d3⟩, ⟨a4, (e 4 (by omega) (by omega) (by omega) (by omega)).trans c4, d4⟩, ⟨pd, (e 5 (by omega) (by omega) (by omega) (by omega)).trans h5, h5'⟩, ⟨a6, (e 6 (by omega) (by omega) (by omega) (by omega)).trans c6⟩, ⟨to, t1⟩, ⟨z, z1⟩, ⟨hv, x1⟩, ⟨a10, (e 10 (by omega) (by omega) (by omega) (by omega)).trans c10⟩⟩ ⟨to, t1, fun y c hc => ?_⟩
  show to (0 + 1 + c) = _
  rw [Nat.zero_add]
  exact t2 y c hc
theorem y_fault (hI : mInj am) (hok : okF F) (hM : mM G M am F) (hp : yPost G M am (pFault F.ch F.pn, F) post) : wp_X4_fault G post (am 0) M := by
  obtain ⟨tl, h0⟩ := hM.1
  unfold wp_X4_fault
  exact ⟨_, h0, g_findFault hI hok hM (fun M1 f m _ => hp M1 f m)⟩
theorem y_orderToPad {x : Int32} (hI : mInj am) (hok : okF F) (hM : mM G M am F) (hp : yPost G M am (xpad F x, F) post) : wp_X4_orderToPad G post (am 0) x M := by
  have hM0 := hM
  obtain ⟨⟨tl, h0⟩, ⟨st, h1, hs⟩, -⟩ := hM
  unfold wp_X4_orderToPad
  unfold xpad at hp
  refine ⟨_, h0, g_isHelper h0 h1 hs ⟨fun h => ⟨_, h0, g_findFault hI hok hM0 (fun M1 f m ht => ⟨fun h6 => ?_, fun h6 => ?_⟩)⟩, fun h => ?_⟩⟩
  · rw [if_neg (by rw [k01_nz h]; decide), if_neg h6] at hp
    exact hp M1 f m
  · obtain ⟨j, hj, rfl, hl⟩ := inH_ex (k01_nz h)
    rw [if_neg (by rw [k01_nz h]; decide), if_pos h6, kcl (by omega)] at hp
    have m' := m
    obtain ⟨⟨tl1, q0⟩, ⟨st1, q1, hs1⟩, -⟩ := m
    obtain ⟨to, t1, t2⟩ := ht
    refine ⟨_, _, q0, rfl, g_helperAt ⟨_, _, q0, rfl, g_orderOf (q := 0) (n := 459) (m := 21) (by omega) (by omega) (by omega) (by omega) q1 t1 ?_⟩⟩
    rw [ordf_cong (hs1.2.2.2.2.1 j hj hl).2.1 (t2 h6)]
    exact hp M1 f m'
  · rw [if_pos (k01_z.mp h)] at hp
    exact hp M mFr.refl hM0
theorem PP.go {M0 M1 M' : k_M} {p n q : Nat} {nw : Nat → Nat} {o c : va_E} (h : PP M0 M1 p nw n o) (hq : M1 q = none) (e : M' = va_up M1 q (some c)) : PP M0 M' p (fun k => if k < n then nw k else (fun _ => q) (k - n)) (n + 1) o ∧ ∀ a e, M1 a = some e → M' a = some e := by
  have hm : ∀ a e', M1 a = some e' → M' a = some e' := fun a e' ha => by
    have hne : a ≠ q := fun z => by rw [z, hq] at ha; cases ha
    rw [kup_off e hne]; exact ha
  exact ⟨h.add (m := 1) (fun k _ => hq) (fun i j hi hj _ => by omega) (fun k _ => by rw [kup_at e]; exact fun z => by cases z) hm, hm⟩
theorem rS_0 : rS kF0.S (upd (upd (fun _ => 0) 0 1) 123 65535) := by
  refine ⟨by decide +kernel, rfl, rfl, fun e he => absurd he (Nat.not_lt_zero e), fun h hh hl => ?_, fun m hm => absurd hm (Nat.not_lt_zero m)⟩
  have h0 : h = 0 := by
    by_cases z : h = 0
    · exact z
    · have e : kF0.S.sh h = 0 := by
        show upd (fun _ => 0) 0 65535 h = 0
        rw [upd_n z]
      exact absurd e hl
  subst h0
  refine ⟨rfl, fun c hc => ?_, fun i hi => ?_⟩
  · show upd (upd (fun _ => 0) 0 1) 123 65535 (123 + 21 * 0 + 1 + c) = 0
    rw [upd_n (by omega), upd_n (by omega)]
  · show bt (upd (upd (fun _ => 0) 0 1) 123 65535 (123 + 21 * 0 + 17 + i / 30)) (i % 30) = false
    rw [upd_n (by omega), upd_n (by omega)]
    exact b_0 _
theorem okF_0 : okF kF0 := by
  have o0 : okS kF0.S := by
    refine ⟨by decide, by decide, fun h hh i hi => ?_, ⟨0, by omega, by decide⟩, fun h hh hl => ⟨fun c hc => Nat.zero_le _, fun i _ => rfl⟩, fun m hm => absurd hm (Nat.not_lt_zero m)⟩
    show bt (upd (fun _ => 0) 0 65535 h) i = false
    by_cases z : h = 0
    · rw [z, upd_s, b_65535]; exact decide_eq_false (by omega)
    · rw [upd_n z]; exact b_0 i
  exact ⟨o0, fun i hi => absurd hi (Nat.not_lt_zero i), by decide, fun i _ hs => (by cases hs), by decide, fun i hi => absurd hi (Nat.not_lt_zero i)⟩
theorem y_init {p mc ms : Nat} {postv : k_M → Prop} (hmc : 10 ≤ mc) (hms : 4383 ≤ ms) (hM : M p = some (kO 5 [.null, .null, .int 0, .null, .null, .null, .int 0, .null, .null, .null, .null, .null, .int 0]))
    (hp : ∀ (M1 : k_M) (am : Nat → Nat), am 0 = p → mInj am → (∀ k, 1 ≤ k → k < 11 → M (am k) = none) → (∀ a e, M a = some e → a ≠ p → M1 a = some e) → mM G M1 am kF0 → postv M1) : wp_X4_init G mc ms postv p M := by
  have hP0 : PP M M p (fun _ => p) 1 (kO 5 [.null, .null, .int 0, .null, .null, .null, .int 0, .null, .null, .null, .null, .null, .int 0]) := ⟨rfl, ⟨fun i j hi hj _ => by omega, fun i _ => by rw [hM]; exact fun z => by cases z⟩, fun k h1 h2 => by omega, fun a e ha _ => ha, hM, by omega⟩
  have pm : ∀ {M1 M' : k_M} {v : va_E} {a : Nat} {e : va_E}, M' = va_up M1 p (some v) → M1 a = some e → a ≠ p → M' a = some e := fun e h hne => by rw [kup_off e hne]; exact h
  unfold wp_X4_init
  refine ⟨459, by decide, by decide, by decide, by omega, by omega, fun qa Ma1 na ea1 => ?_⟩
  obtain ⟨Pa1, ma⟩ := hP0.go na ea1
  have pa := (hP0.fresh na).2
  refine ⟨_, Pa1.2.2.2.2.1, by simp, fun Ma2 ea2 => ?_⟩
  have Pa2 := Pa1.put ea2
  have xa := pm ea2 (kup_at ea1) pa
  refine ⟨2754, by decide, by decide, by decide, by omega, by omega, fun qb Mb1 nb eb1 => ?_⟩
  obtain ⟨Pb1, mb⟩ := Pa2.go nb eb1
  have pb := (Pa2.fresh nb).2
  refine ⟨_, Pb1.2.2.2.2.1, by simp, fun Mb2 eb2 => ?_⟩
  have Pb2 := Pb1.put eb2
  have xb := pm eb2 (kup_at eb1) pb
  have xa := pm eb2 (mb _ _ xa) pa
  refine ⟨918, by decide, by decide, by decide, by omega, by omega, fun qc Mc1 nc ec1 => ?_⟩
  obtain ⟨Pc1, mc⟩ := Pb2.go nc ec1
  have pc := (Pb2.fresh nc).2
  refine ⟨_, Pc1.2.2.2.2.1, by simp, fun Mc2 ec2 => ?_⟩
  have Pc2 := Pc1.put ec2
  have xc := pm ec2 (kup_at ec1) pc
  have xa := pm ec2 (mc _ _ xa) pa
  have xb := pm ec2 (mc _ _ xb) pb
  refine ⟨2, by decide, by decide, by decide, by omega, by omega, fun qd Md1 nd ed1 => ?_⟩
  obtain ⟨Pd1, md⟩ := Pc2.go nd ed1
  have pd := (Pc2.fresh nd).2
  refine ⟨_, Pd1.2.2.2.2.1, by simp, fun Md2 ed2 => ?_⟩
  have Pd2 := Pd1.put ed2
  have xd := pm ed2 (kup_at ed1) pd
  have xa := pm ed2 (md _ _ xa) pa
  have xb := pm ed2 (md _ _ xb) pb
  have xc := pm ed2 (md _ _ xc) pc
  refine ⟨64, by decide, by decide, by decide, by omega, by omega, fun qe Me1 ne ee1 => ?_⟩
  obtain ⟨Pe1, me⟩ := Pd2.go ne ee1
  have pe := (Pd2.fresh ne).2
  refine ⟨_, Pe1.2.2.2.2.1, by simp, fun Me2 ee2 => ?_⟩
  have Pe2 := Pe1.put ee2
  have xe := pm ee2 (kup_at ee1) pe
  have xa := pm ee2 (me _ _ xa) pa
  have xb := pm ee2 (me _ _ xb) pb
  have xc := pm ee2 (me _ _ xc) pc
  have xd := pm ee2 (me _ _ xd) pd
  refine ⟨21, by decide, by decide, by decide, by omega, by omega, fun qf Mf1 nf ef1 => ?_⟩
  obtain ⟨Pf1, mf⟩ := Pe2.go nf ef1
  have pf := (Pe2.fresh nf).2
  refine ⟨_, Pf1.2.2.2.2.1, by simp, fun Mf2 ef2 => ?_⟩
  have Pf2 := Pf1.put ef2
  have xf := pm ef2 (kup_at ef1) pf
  have xa := pm ef2 (mf _ _ xa) pa
  have xb := pm ef2 (mf _ _ xb) pb
  have xc := pm ef2 (mf _ _ xc) pc
  have xd := pm ef2 (mf _ _ xd) pd
  have xe := pm ef2 (mf _ _ xe) pe
  refine ⟨21, by decide, by decide, by decide, by omega, by omega, fun qg Mg1 ng eg1 => ?_⟩
  obtain ⟨Pg1, mg⟩ := Pf2.go ng eg1
  have pg := (Pf2.fresh ng).2
  refine ⟨_, Pg1.2.2.2.2.1, by simp, fun Mg2 eg2 => ?_⟩
  have Pg2 := Pg1.put eg2
  have xg := pm eg2 (kup_at eg1) pg
  have xa := pm eg2 (mg _ _ xa) pa
  have xb := pm eg2 (mg _ _ xb) pb
  have xc := pm eg2 (mg _ _ xc) pc
  have xd := pm eg2 (mg _ _ xd) pd
  have xe := pm eg2 (mg _ _ xe) pe
  have xf := pm eg2 (mg _ _ xf) pf
  refine ⟨8, by decide, by decide, by decide, by omega, by omega, fun qh Mh1 nh eh1 => ?_⟩
  obtain ⟨Ph1, mh⟩ := Pg2.go nh eh1
  have ph := (Pg2.fresh nh).2
  refine ⟨_, Ph1.2.2.2.2.1, by simp, fun Mh2 eh2 => ?_⟩
  have Ph2 := Ph1.put eh2
  have xh := pm eh2 (kup_at eh1) ph
  have xa := pm eh2 (mh _ _ xa) pa
  have xb := pm eh2 (mh _ _ xb) pb
  have xc := pm eh2 (mh _ _ xc) pc
  have xd := pm eh2 (mh _ _ xd) pd
  have xe := pm eh2 (mh _ _ xe) pe
  have xf := pm eh2 (mh _ _ xf) pf
  have xg := pm eh2 (mh _ _ xg) pg
  refine ⟨8, by decide, by decide, by decide, by omega, by omega, fun qi Mi1 ni ei1 => ?_⟩
  obtain ⟨Pi1, mi⟩ := Ph2.go ni ei1
  have pi := (Ph2.fresh ni).2
  refine ⟨_, Pi1.2.2.2.2.1, by simp, fun Mi2 ei2 => ?_⟩
  have Pi2 := Pi1.put ei2
  have xi := pm ei2 (kup_at ei1) pi
  have xa := pm ei2 (mi _ _ xa) pa
  have xb := pm ei2 (mi _ _ xb) pb
  have xc := pm ei2 (mi _ _ xc) pc
  have xd := pm ei2 (mi _ _ xd) pd
  have xe := pm ei2 (mi _ _ xe) pe
  have xf := pm ei2 (mi _ _ xf) pf
  have xg := pm ei2 (mi _ _ xg) pg
  have xh := pm ei2 (mi _ _ xh) ph
  refine ⟨128, by decide, by decide, by decide, by omega, by omega, fun qj Mj1 nj ej1 => ?_⟩
  obtain ⟨Pj1, mj⟩ := Pi2.go nj ej1
  have pj := (Pi2.fresh nj).2
  refine ⟨_, Pj1.2.2.2.2.1, by simp, fun Mj2 ej2 => ?_⟩
  have Pj2 := Pj1.put ej2
  have xj := pm ej2 (kup_at ej1) pj
  have xa := pm ej2 (mj _ _ xa) pa
  have xb := pm ej2 (mj _ _ xb) pb
  have xc := pm ej2 (mj _ _ xc) pc
  have xd := pm ej2 (mj _ _ xd) pd
  have xe := pm ej2 (mj _ _ xe) pe
  have xf := pm ej2 (mj _ _ xf) pf
  have xg := pm ej2 (mj _ _ xg) pg
  have xh := pm ej2 (mj _ _ xh) ph
  have xi := pm ej2 (mj _ _ xi) pi
  have hO := Pj2.2.2.2.2.1
  generalize hnw : (fun k => if k < 10 then _ else _) = nw at Pj2
  have hn0 : nw 0 = p := Pj2.1
  have hni : ∀ i j, i < 11 → j < 11 → nw i = nw j → i = j := Pj2.2.1.1
  have hnf : ∀ k, 1 ≤ k → k < 11 → M (nw k) = none := Pj2.2.2.1
  have hnm : ∀ a e, M a = some e → a ≠ p → Mj2 a = some e := Pj2.2.2.2.1
  have wa : nw 1 = qa := by rw [← hnw]; rfl
  have wb : nw 2 = qb := by rw [← hnw]; rfl
  have wc : nw 3 = qc := by rw [← hnw]; rfl
  have wd : nw 4 = qd := by rw [← hnw]; rfl
  have we : nw 5 = qe := by rw [← hnw]; rfl
  have wf : nw 6 = qf := by rw [← hnw]; rfl
  have wg : nw 7 = qg := by rw [← hnw]; rfl
  have wh : nw 8 = qh := by rw [← hnw]; rfl
  have wi : nw 9 = qi := by rw [← hnw]; rfl
  have wj : nw 10 = qj := by rw [← hnw]; rfl
  have npa : p ≠ qa := Ne.symm pa
  refine ⟨_, _, hO, rfl, _, _, xa, kvin (j := 0) (n := 459) (by omega) (by omega), fun N1 u1 => ?_⟩
  have hO1 := (kup_off u1 npa).trans hO
  refine ⟨_, _, hO1, rfl, _, _, kup_at u1, kvin (j := 123) (n := 459) (by omega) (by omega), fun N2 u2 => ⟨by omega, by omega, ?_⟩⟩
  have hO2 := (kup_off u2 npa).trans hO1
  have e0 : ((0 : Int32)).toNatClampNeg = 0 := rfl
  have e123 : ((123 : Int32)).toNatClampNeg = 123 := rfl
  rw [e0] at u1 u2
  rw [e123] at u2
  have ne : ∀ k, 1 < k → k < 11 → nw k ≠ qa := fun k k1 k2 z => by
    have := hni k 1 k2 (by omega) (by rw [z]; exact wa.symm)
    omega
  have oth : ∀ k, 1 < k → k < 11 → N2 (nw k) = Mj2 (nw k) := fun k k1 k2 => (kup_off u2 (ne k k1 k2)).trans (kup_off u1 (ne k k1 k2))
  have yb : N2 (nw 2) = some (kI G 2754 (fun _ => 0)) := by rw [oth 2 (by omega) (by omega), wb]; exact xb
  have yc : N2 (nw 3) = some (kI G 918 (fun _ => 0)) := by rw [oth 3 (by omega) (by omega), wc]; exact xc
  have yd : N2 (nw 4) = some (kI G 2 (fun _ => 0)) := by rw [oth 4 (by omega) (by omega), wd]; exact xd
  have ye : N2 (nw 5) = some (kI G 64 (fun _ => 0)) := by rw [oth 5 (by omega) (by omega), we]; exact xe
  have yf : N2 (nw 6) = some (kI G 21 (fun _ => 0)) := by rw [oth 6 (by omega) (by omega), wf]; exact xf
  have yg : N2 (nw 7) = some (kI G 21 (fun _ => 0)) := by rw [oth 7 (by omega) (by omega), wg]; exact xg
  have yh : N2 (nw 8) = some (kI G 8 (fun _ => 0)) := by rw [oth 8 (by omega) (by omega), wh]; exact xh
  have yi : N2 (nw 9) = some (kI G 8 (fun _ => 0)) := by rw [oth 9 (by omega) (by omega), wi]; exact xi
  have yj : N2 (nw 10) = some (kI G 128 (fun _ => 0)) := by rw [oth 10 (by omega) (by omega), wj]; exact xj
  refine hp N2 nw hn0 hni hnf (fun a e ha hne => ?_) ⟨⟨0, ?_⟩, ⟨_, by rw [wa]; exact kup_at u2, rS_0⟩, ⟨_, yb, fun i hi => absurd hi (Nat.not_lt_zero i)⟩, ⟨_, yc, fun i _ hs => (by cases hs)⟩, ⟨_, yd, fun i _ => rfl⟩, ⟨_, ye, fun i hi => absurd hi (Nat.not_lt_zero i)⟩, ⟨_, yf⟩, ⟨_, yg⟩, ⟨_, yh⟩, ⟨_, yi⟩, ⟨_, yj⟩⟩
  · have na : a ≠ qa := fun z => by
      have := hnf 1 (by omega) (by omega)
      rw [wa, ← z, ha] at this; cases this
    rw [kup_off u2 na, kup_off u1 na]
    exact hnm a e ha hne
  · rw [hn0]
    show N2 p = some (kO 5 [.ref (nw 1), .ref (nw 2), .int 0, .ref (nw 3), .ref (nw 4), .ref (nw 5), .int 0, .ref (nw 6), .ref (nw 7), .ref (nw 8), .ref (nw 9), .ref (nw 10), .int 0])
    rw [wa, wb, wc, wd, we, wf, wg, wh, wi, wj]
    exact hO2
end G13
