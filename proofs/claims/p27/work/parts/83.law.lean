/-! ===== the law, walked ===== -/
def wp_L_law_b988 (G : k_G) (mc ms : Nat) (post : Int32 → k_M → Prop) (K43 : Nat → Nat → Nat → Nat → Nat → Nat → Nat → Int32 → Nat → Nat → k_M → Prop) (x0 : Nat) (x1 : Nat) (x2 : Nat) (x3 : Nat) (x4 : Nat) (x5 : Nat) (x6 : Nat) (x7 : Int32) (x8 : Int32) (kc : Nat) (ks : Nat) (M : k_M) : Prop :=
  (∃ mc92 ms93 : Nat, kc + mc92 ≤ mc ∧ ks + ms93 ≤ ms ∧ wp_L_same G mc92 ms93 (fun r94 M95 =>
    ((¬ r94 = 0 →
    K43 x0 x1 x2 x3 x4 x5 x6 (x7 + (1 : Int32)) (kc + mc92) (ks + ms93) M95) ∧
    (r94 = 0 →
    (kc + mc92) ≤ mc ∧ (ks + ms93) ≤ ms ∧ post (0 : Int32) M95))) x1 (x8 >>> ((3 : Int32) &&& 31)) x2 x3 x4 x5 x6 M)
def wp_L_law_b986 (G : k_G) (mc ms : Nat) (post : Int32 → k_M → Prop) (K43 : Nat → Nat → Nat → Nat → Nat → Nat → Nat → Int32 → Nat → Nat → k_M → Prop) (x0 : Nat) (x1 : Nat) (x2 : Nat) (x3 : Nat) (x4 : Nat) (x5 : Nat) (x6 : Nat) (x7 : Int32) (x8 : Int32) (s0 : Int32) (s1 : Int32) (s2 : Int32) (s3 : Nat) (kc : Nat) (ks : Nat) (M : k_M) : Prop :=
  (∃ n126 f127, M s3 = some (kI G n126 f127) ∧ vp_in s2 n126 ∧ ∀ M128 : k_M, M128 = va_up M s3 (some (kI G n126 (upd f127 (s2).toNatClampNeg (s1 - s0)))) →
    wp_L_law_b988 G mc ms post K43 x0 x1 x2 x3 x4 x5 x6 x7 x8 kc ks M128)
def wp_L_law_L899 (G : k_G) (mc ms : Nat) (post : Int32 → k_M → Prop) (K43 : Nat → Nat → Nat → Nat → Nat → Nat → Nat → Int32 → Nat → Nat → k_M → Prop) : Nat → Nat → Nat → Nat → Nat → Nat → Nat → Nat → Int32 → Int32 → Int32 → Nat → Nat → k_M → Prop
  | 0 => fun _ _ _ _ _ _ _ _ _ _ _ _ _ => False
  | n + 1 => fun x0 x1 x2 x3 x4 x5 x6 x7 x8 x13 kc ks M =>
  (∃ n114 f115, M x5 = some (kI G n114 f115) ∧ vp_in (0 : Int32) n114 ∧
      ((((7 : Int32) + (f115 ((0 : Int32)).toNatClampNeg)) ≤ x13 →
      (∃ n118 f119, M x5 = some (kI G n118 f119) ∧ vp_in (0 : Int32) n118 ∧
        (∃ n122 f123, M x5 = some (kI G n122 f123) ∧ vp_in (0 : Int32) n122 ∧
        (((f123 ((0 : Int32)).toNatClampNeg) ≤ 0 →
        wp_L_law_b986 G mc ms post K43 x0 x1 x2 x3 x4 x5 x6 x7 x8 (0 : Int32) (f119 ((0 : Int32)).toNatClampNeg) (0 : Int32) x5 kc ks M) ∧
        (¬ (f123 ((0 : Int32)).toNatClampNeg) ≤ 0 →
        wp_L_law_b986 G mc ms post K43 x0 x1 x2 x3 x4 x5 x6 x7 x8 (1 : Int32) (f119 ((0 : Int32)).toNatClampNeg) (0 : Int32) x5 kc ks M))))) ∧
      (¬ ((7 : Int32) + (f115 ((0 : Int32)).toNatClampNeg)) ≤ x13 →
      (∃ n131 f132, M x2 = some (kI G n131 f132) ∧ vp_in (x13 + (1 : Int32)) n131 ∧
        (∃ n135 f136, M x2 = some (kI G n135 f136) ∧ vp_in x13 n135 ∧ ∀ M137 : k_M, M137 = va_up M x2 (some (kI G n135 (upd f136 (x13).toNatClampNeg (f132 ((x13 + (1 : Int32))).toNatClampNeg)))) →
        (∃ n140 f141, M137 x3 = some (kJ G n140 f141) ∧ vp_in (((2 : Int32) * x13) + (2 : Int32)) n140 ∧
        (∃ n144 f145, M137 x3 = some (kJ G n144 f145) ∧ vp_in ((2 : Int32) * x13) n144 ∧ ∀ M146 : k_M, M146 = va_up M137 x3 (some (kJ G n144 (vp_updL f145 (((2 : Int32) * x13)).toNatClampNeg (f141 ((((2 : Int32) * x13) + (2 : Int32))).toNatClampNeg)))) →
        (∃ n149 f150, M146 x3 = some (kJ G n149 f150) ∧ vp_in (((2 : Int32) * x13) + (3 : Int32)) n149 ∧
        (∃ n153 f154, M146 x3 = some (kJ G n153 f154) ∧ vp_in (((2 : Int32) * x13) + (1 : Int32)) n153 ∧ ∀ M155 : k_M, M155 = va_up M146 x3 (some (kJ G n153 (vp_updL f154 ((((2 : Int32) * x13) + (1 : Int32))).toNatClampNeg (f150 ((((2 : Int32) * x13) + (3 : Int32))).toNatClampNeg)))) →
        (∃ n158 f159, M155 x4 = some (kJ G n158 f159) ∧ vp_in (x13 + (1 : Int32)) n158 ∧
        (∃ n162 f163, M155 x4 = some (kJ G n162 f163) ∧ vp_in x13 n162 ∧ ∀ M164 : k_M, M164 = va_up M155 x4 (some (kJ G n162 (vp_updL f163 (x13).toNatClampNeg (f159 ((x13 + (1 : Int32))).toNatClampNeg)))) →
        (wp_L_law_L899 G mc ms post K43 n) x0 x1 x2 x3 x4 x5 x6 x7 x8 (x13 + (1 : Int32)) kc ks M164)))))))))))
def wp_L_law_b887 (G : k_G) (mc ms : Nat) (post : Int32 → k_M → Prop) (K43 : Nat → Nat → Nat → Nat → Nat → Nat → Nat → Int32 → Nat → Nat → k_M → Prop) (x0 : Nat) (x1 : Nat) (x2 : Nat) (x3 : Nat) (x4 : Nat) (x5 : Nat) (x6 : Nat) (x7 : Int32) (x8 : Int32) (x12 : Int32) (s0 : Int32) (s1 : Int32) (kc : Nat) (ks : Nat) (M : k_M) : Prop :=
  ((s1 = s0 →
    ∃ k113, wp_L_law_L899 G mc ms post K43 k113 x0 x1 x2 x3 x4 x5 x6 x7 x8 ((8 : Int32) + x12) kc ks M) ∧
    (¬ s1 = s0 →
    kc ≤ mc ∧ ks ≤ ms ∧ post (0 : Int32) M))
def wp_L_law_b857 (G : k_G) (mc ms : Nat) (post : Int32 → k_M → Prop) (K43 : Nat → Nat → Nat → Nat → Nat → Nat → Nat → Int32 → Nat → Nat → k_M → Prop) (x0 : Nat) (x1 : Nat) (x2 : Nat) (x3 : Nat) (x4 : Nat) (x5 : Nat) (x6 : Nat) (x7 : Int32) (x8 : Int32) (x9 : Int32) (x12 : Int32) (kc : Nat) (ks : Nat) (M : k_M) : Prop :=
  ((¬ x9 = (11 : Int32) →
    wp_L_law_b988 G mc ms post K43 x0 x1 x2 x3 x4 x5 x6 x7 x8 kc ks M) ∧
    (x9 = (11 : Int32) →
    (∃ fs102, M x1 = some (kO 4 fs102) ∧ (kc ≤ mc ∧ ks ≤ ms ∧ wp_X3_drop G (fun r99 M100 =>
      (∃ n105 f106, M100 x5 = some (kI G n105 f106) ∧ vp_in (0 : Int32) n105 ∧
      ((¬ (f106 ((0 : Int32)).toNatClampNeg) = 0 →
      (∃ n109 f110, M100 x5 = some (kI G n109 f110) ∧ vp_in (0 : Int32) n109 ∧
        wp_L_law_b887 G mc ms post K43 x0 x1 x2 x3 x4 x5 x6 x7 x8 x12 ((f110 ((0 : Int32)).toNatClampNeg) - (1 : Int32)) r99 kc ks M100)) ∧
      ((f106 ((0 : Int32)).toNatClampNeg) = 0 →
      wp_L_law_b887 G mc ms post K43 x0 x1 x2 x3 x4 x5 x6 x7 x8 x12 (-1 : Int32) r99 kc ks M100)))) x1 x12 M))))
def wp_L_law_b569 (G : k_G) (mc ms : Nat) (post : Int32 → k_M → Prop) (K43 : Nat → Nat → Nat → Nat → Nat → Nat → Nat → Int32 → Nat → Nat → k_M → Prop) (x0 : Nat) (x1 : Nat) (x2 : Nat) (x3 : Nat) (x4 : Nat) (x5 : Nat) (x6 : Nat) (x7 : Int32) (x8 : Int32) (x10 : Int32) (s0 : Int32) (s1 : Int32) (kc : Nat) (ks : Nat) (M : k_M) : Prop :=
  ((s1 = s0 →
    (∃ n327 f328, M x5 = some (kI G n327 f328) ∧ vp_in (0 : Int32) n327 ∧
      (((8 : Int32) ≤ (f328 ((0 : Int32)).toNatClampNeg) →
      wp_L_law_b988 G mc ms post K43 x0 x1 x2 x3 x4 x5 x6 x7 x8 kc ks M) ∧
      (¬ (8 : Int32) ≤ (f328 ((0 : Int32)).toNatClampNeg) →
      (∃ n331 f332, M x5 = some (kI G n331 f332) ∧ vp_in (0 : Int32) n331 ∧
        (∃ n335 f336, M x5 = some (kI G n335 f336) ∧ vp_in (0 : Int32) n335 ∧ ∀ M337 : k_M, M337 = va_up M x5 (some (kI G n335 (upd f336 ((0 : Int32)).toNatClampNeg ((f332 ((0 : Int32)).toNatClampNeg) + (1 : Int32))))) →
        (∀ y340 : Int32, y340 = ((8 : Int32) + (f332 ((0 : Int32)).toNatClampNeg)) →
        (∃ n341 f342, M337 x2 = some (kI G n341 f342) ∧ vp_in y340 n341 ∧ ∀ M343 : k_M, M343 = va_up M337 x2 (some (kI G n341 (upd f342 (y340).toNatClampNeg x10))) →
        (∃ n346 f347, M343 x3 = some (kJ G n346 f347) ∧ vp_in ((2 : Int32) * x10) n346 ∧
        (∃ n350 f351, M343 x3 = some (kJ G n350 f351) ∧ vp_in ((2 : Int32) * y340) n350 ∧ ∀ M352 : k_M, M352 = va_up M343 x3 (some (kJ G n350 (vp_updL f351 (((2 : Int32) * y340)).toNatClampNeg (f347 (((2 : Int32) * x10)).toNatClampNeg)))) →
        (∃ n355 f356, M352 x3 = some (kJ G n355 f356) ∧ vp_in (((2 : Int32) * x10) + (1 : Int32)) n355 ∧
        (∃ n359 f360, M352 x3 = some (kJ G n359 f360) ∧ vp_in (((2 : Int32) * y340) + (1 : Int32)) n359 ∧ ∀ M361 : k_M, M361 = va_up M352 x3 (some (kJ G n359 (vp_updL f360 ((((2 : Int32) * y340) + (1 : Int32))).toNatClampNeg (f356 ((((2 : Int32) * x10) + (1 : Int32))).toNatClampNeg)))) →
        (∃ n364 f365, M361 x4 = some (kJ G n364 f365) ∧ vp_in x10 n364 ∧
        (∃ n368 f369, M361 x4 = some (kJ G n368 f369) ∧ vp_in y340 n368 ∧ ∀ M370 : k_M, M370 = va_up M361 x4 (some (kJ G n368 (vp_updL f369 (y340).toNatClampNeg (f365 (x10).toNatClampNeg)))) →
        wp_L_law_b988 G mc ms post K43 x0 x1 x2 x3 x4 x5 x6 x7 x8 kc ks M370)))))))))))))) ∧
    (¬ s1 = s0 →
    kc ≤ mc ∧ ks ≤ ms ∧ post (0 : Int32) M))
def wp_L_law_b475 (G : k_G) (mc ms : Nat) (post : Int32 → k_M → Prop) (K43 : Nat → Nat → Nat → Nat → Nat → Nat → Nat → Int32 → Nat → Nat → k_M → Prop) (x0 : Nat) (x1 : Nat) (x2 : Nat) (x3 : Nat) (x4 : Nat) (x5 : Nat) (x6 : Nat) (x7 : Int32) (x8 : Int32) (kc : Nat) (ks : Nat) (M : k_M) : Prop :=
  wp_L_law_b988 G mc ms post K43 x0 x1 x2 x3 x4 x5 x6 x7 x8 kc ks M
def wp_L_law_b439 (G : k_G) (mc ms : Nat) (post : Int32 → k_M → Prop) (K43 : Nat → Nat → Nat → Nat → Nat → Nat → Nat → Int32 → Nat → Nat → k_M → Prop) (x0 : Nat) (x1 : Nat) (x2 : Nat) (x3 : Nat) (x4 : Nat) (x5 : Nat) (x6 : Nat) (x7 : Int32) (x8 : Int32) (x10 : Int32) (x11 : Int32) (x13 : Int32) (s0 : Int32) (s1 : Int32) (kc : Nat) (ks : Nat) (M : k_M) : Prop :=
  ((s1 = s0 →
    ((x13 = 0 →
      wp_L_law_b475 G mc ms post K43 x0 x1 x2 x3 x4 x5 x6 x7 x8 kc ks M) ∧
      (¬ x13 = 0 →
      (kc ≤ mc ∧ ks ≤ ms ∧ wp_L_take G (fun M452 =>
        (∃ n456 f457, M452 x2 = some (kI G n456 f457) ∧ vp_in x10 n456 ∧
        (∃ n460 f461, M452 x2 = some (kI G n460 f461) ∧ vp_in x11 n460 ∧
        (∃ n464 f465, M452 x2 = some (kI G n464 f465) ∧ vp_in x10 n464 ∧ ∀ M466 : k_M, M466 = va_up M452 x2 (some (kI G n464 (upd f465 (x10).toNatClampNeg ((f457 (x10).toNatClampNeg) ||| (f461 (x11).toNatClampNeg))))) →
        (∃ n469 f470, M466 x2 = some (kI G n469 f470) ∧ vp_in x11 n469 ∧ ∀ M471 : k_M, M471 = va_up M466 x2 (some (kI G n469 (upd f470 (x11).toNatClampNeg (0 : Int32)))) →
        wp_L_law_b475 G mc ms post K43 x0 x1 x2 x3 x4 x5 x6 x7 x8 kc ks M471))))) x10 x11 x3 x4 M)))) ∧
    (¬ s1 = s0 →
    kc ≤ mc ∧ ks ≤ ms ∧ post (0 : Int32) M))
def wp_L_law_b387 (G : k_G) (mc ms : Nat) (post : Int32 → k_M → Prop) (K43 : Nat → Nat → Nat → Nat → Nat → Nat → Nat → Int32 → Nat → Nat → k_M → Prop) (x0 : Nat) (x1 : Nat) (x2 : Nat) (x3 : Nat) (x4 : Nat) (x5 : Nat) (x6 : Nat) (x7 : Int32) (x8 : Int32) (x10 : Int32) (x11 : Int32) (s0 : Int32) (kc : Nat) (ks : Nat) (M : k_M) : Prop :=
  (∃ n423 f424, M x2 = some (kI G n423 f424) ∧ vp_in x10 n423 ∧
    (kc ≤ mc ∧ ks ≤ ms ∧ wp_L_bits G (fun r427 M428 =>
    (∃ n432 f433, M428 x2 = some (kI G n432 f433) ∧ vp_in x11 n432 ∧
    (kc ≤ mc ∧ ks ≤ ms ∧ wp_L_bits G (fun r436 M437 =>
    (∃ fs444, M437 x1 = some (kO 4 fs444) ∧ (kc ≤ mc ∧ ks ≤ ms ∧ wp_X3_gather G (fun r441 M442 =>
    (∃ n447 f448, M442 x2 = some (kI G n447 f448) ∧ vp_in x11 n447 ∧
    ((¬ (f448 (x11).toNatClampNeg) = 0 →
    ((s0 = 0 →
      wp_L_law_b439 G mc ms post K43 x0 x1 x2 x3 x4 x5 x6 x7 x8 x10 x11 s0 (-2 : Int32) r441 kc ks M442) ∧
      (¬ s0 = 0 →
      wp_L_law_b439 G mc ms post K43 x0 x1 x2 x3 x4 x5 x6 x7 x8 x10 x11 s0 (r427 + r436) r441 kc ks M442))) ∧
    ((f448 (x11).toNatClampNeg) = 0 →
    wp_L_law_b439 G mc ms post K43 x0 x1 x2 x3 x4 x5 x6 x7 x8 x10 x11 s0 (-1 : Int32) r441 kc ks M442)))) x1 x11 x10 M437))) ((f433 (x11).toNatClampNeg)).toInt64 M428))) ((f424 (x10).toNatClampNeg)).toInt64 M))
def wp_L_law_b386 (G : k_G) (mc ms : Nat) (post : Int32 → k_M → Prop) (K43 : Nat → Nat → Nat → Nat → Nat → Nat → Nat → Int32 → Nat → Nat → k_M → Prop) (x0 : Nat) (x1 : Nat) (x2 : Nat) (x3 : Nat) (x4 : Nat) (x5 : Nat) (x6 : Nat) (x7 : Int32) (x8 : Int32) (x10 : Int32) (x11 : Int32) (kc : Nat) (ks : Nat) (M : k_M) : Prop :=
  wp_L_law_b387 G mc ms post K43 x0 x1 x2 x3 x4 x5 x6 x7 x8 x10 x11 (0 : Int32) kc ks M
def wp_L_law_b359 (G : k_G) (mc ms : Nat) (post : Int32 → k_M → Prop) (K43 : Nat → Nat → Nat → Nat → Nat → Nat → Nat → Int32 → Nat → Nat → k_M → Prop) (x0 : Nat) (x1 : Nat) (x2 : Nat) (x3 : Nat) (x4 : Nat) (x5 : Nat) (x6 : Nat) (x7 : Int32) (x8 : Int32) (kc : Nat) (ks : Nat) (M : k_M) : Prop :=
  wp_L_law_b988 G mc ms post K43 x0 x1 x2 x3 x4 x5 x6 x7 x8 kc ks M
def wp_L_law_L276 (G : k_G) (mc ms : Nat) (post : Int32 → k_M → Prop) (K43 : Nat → Nat → Nat → Nat → Nat → Nat → Nat → Int32 → Nat → Nat → k_M → Prop) (K261 : Nat → Nat → Nat → Nat → Nat → Nat → Nat → Int32 → Int32 → Int32 → Int32 → Int32 → Int32 → Nat → Nat → k_M → Prop) : Nat → Nat → Nat → Nat → Nat → Nat → Nat → Nat → Int32 → Int32 → Int32 → Int32 → Int32 → Int32 → Int32 → Nat → Nat → k_M → Prop
  | 0 => fun _ _ _ _ _ _ _ _ _ _ _ _ _ _ _ _ _ => False
  | n + 1 => fun x0 x1 x2 x3 x4 x5 x6 x7 x8 x10 x13 x15 x16 x17 kc ks M =>
  ((¬ ((x16 >>> (x17 &&& 31)) &&& (1 : Int32)) = 0 →
      K261 x0 x1 x2 x3 x4 x5 x6 x7 x8 x10 x13 x15 (x16 ^^^ ((1 : Int32) <<< (x17 &&& 31))) kc ks M) ∧
      (((x16 >>> (x17 &&& 31)) &&& (1 : Int32)) = 0 →
      (wp_L_law_L276 G mc ms post K43 K261 n) x0 x1 x2 x3 x4 x5 x6 x7 x8 x10 x13 x15 x16 (x17 + (-1 : Int32)) kc ks M))
def wp_L_law_L261 (G : k_G) (mc ms : Nat) (post : Int32 → k_M → Prop) (K43 : Nat → Nat → Nat → Nat → Nat → Nat → Nat → Int32 → Nat → Nat → k_M → Prop) : Nat → Nat → Nat → Nat → Nat → Nat → Nat → Nat → Int32 → Int32 → Int32 → Int32 → Int32 → Int32 → Nat → Nat → k_M → Prop
  | 0 => fun _ _ _ _ _ _ _ _ _ _ _ _ _ _ _ _ => False
  | n + 1 => fun x0 x1 x2 x3 x4 x5 x6 x7 x8 x10 x13 x15 x16 kc ks M =>
  (kc ≤ mc ∧ ks ≤ ms ∧ wp_L_bits G (fun r495 M496 =>
      ((r495 ≤ x15 →
      (∃ n500 f501, M496 x2 = some (kI G n500 f501) ∧ vp_in x10 n500 ∧
        (∃ n504 f505, M496 x2 = some (kI G n504 f505) ∧ vp_in x13 n504 ∧ ∀ M506 : k_M, M506 = va_up M496 x2 (some (kI G n504 (upd f505 (x13).toNatClampNeg ((f501 (x10).toNatClampNeg) ^^^ x16)))) →
        (∃ n509 f510, M506 x2 = some (kI G n509 f510) ∧ vp_in x10 n509 ∧ ∀ M511 : k_M, M511 = va_up M506 x2 (some (kI G n509 (upd f510 (x10).toNatClampNeg x16))) →
        (∃ n514 f515, M511 x3 = some (kJ G n514 f515) ∧ vp_in ((2 : Int32) * x10) n514 ∧
        (∃ n518 f519, M511 x3 = some (kJ G n518 f519) ∧ vp_in ((2 : Int32) * x13) n518 ∧ ∀ M520 : k_M, M520 = va_up M511 x3 (some (kJ G n518 (vp_updL f519 (((2 : Int32) * x13)).toNatClampNeg (f515 (((2 : Int32) * x10)).toNatClampNeg)))) →
        (∃ n523 f524, M520 x3 = some (kJ G n523 f524) ∧ vp_in (((2 : Int32) * x10) + (1 : Int32)) n523 ∧
        (∃ n527 f528, M520 x3 = some (kJ G n527 f528) ∧ vp_in (((2 : Int32) * x13) + (1 : Int32)) n527 ∧ ∀ M529 : k_M, M529 = va_up M520 x3 (some (kJ G n527 (vp_updL f528 ((((2 : Int32) * x13) + (1 : Int32))).toNatClampNeg (f524 ((((2 : Int32) * x10) + (1 : Int32))).toNatClampNeg)))) →
        (∃ n532 f533, M529 x4 = some (kJ G n532 f533) ∧ vp_in x10 n532 ∧
        (∃ n536 f537, M529 x4 = some (kJ G n536 f537) ∧ vp_in x13 n536 ∧ ∀ M538 : k_M, M538 = va_up M529 x4 (some (kJ G n536 (vp_updL f537 (x13).toNatClampNeg (f533 (x10).toNatClampNeg)))) →
        wp_L_law_b359 G mc ms post K43 x0 x1 x2 x3 x4 x5 x6 x7 x8 kc ks M538)))))))))) ∧
      (¬ r495 ≤ x15 →
      ∃ k541, wp_L_law_L276 G mc ms post K43 (wp_L_law_L261 G mc ms post K43 n) k541 x0 x1 x2 x3 x4 x5 x6 x7 x8 x10 x13 x15 x16 (15 : Int32) kc ks M496))) (x16).toInt64 M)
def wp_L_law_b231 (G : k_G) (mc ms : Nat) (post : Int32 → k_M → Prop) (K43 : Nat → Nat → Nat → Nat → Nat → Nat → Nat → Int32 → Nat → Nat → k_M → Prop) (x0 : Nat) (x1 : Nat) (x2 : Nat) (x3 : Nat) (x4 : Nat) (x5 : Nat) (x6 : Nat) (x7 : Int32) (x8 : Int32) (x10 : Int32) (x13 : Int32) (x14 : Int32) (s0 : Int32) (s1 : Int32) (kc : Nat) (ks : Nat) (M : k_M) : Prop :=
  ((s1 = s0 →
    ((x14 = 0 →
      wp_L_law_b359 G mc ms post K43 x0 x1 x2 x3 x4 x5 x6 x7 x8 kc ks M) ∧
      (¬ x14 = 0 →
      (∃ n481 f482, M x2 = some (kI G n481 f482) ∧ vp_in x10 n481 ∧
        (kc ≤ mc ∧ ks ≤ ms ∧ wp_L_bits G (fun r485 M486 =>
        (∃ n490 f491, M486 x2 = some (kI G n490 f491) ∧ vp_in x10 n490 ∧
        ∃ k494, wp_L_law_L261 G mc ms post K43 k494 x0 x1 x2 x3 x4 x5 x6 x7 x8 x10 x13 ((r485 + (1 : Int32)) / (2 : Int32)) (f491 (x10).toNatClampNeg) kc ks M486)) ((f482 (x10).toNatClampNeg)).toInt64 M))))) ∧
    (¬ s1 = s0 →
    kc ≤ mc ∧ ks ≤ ms ∧ post (0 : Int32) M))
def wp_L_law_b199 (G : k_G) (mc ms : Nat) (post : Int32 → k_M → Prop) (K43 : Nat → Nat → Nat → Nat → Nat → Nat → Nat → Int32 → Nat → Nat → k_M → Prop) (x0 : Nat) (x1 : Nat) (x2 : Nat) (x3 : Nat) (x4 : Nat) (x5 : Nat) (x6 : Nat) (x7 : Int32) (x8 : Int32) (x10 : Int32) (x13 : Int32) (s0 : Int32) (kc : Nat) (ks : Nat) (M : k_M) : Prop :=
  (∃ fs478, M x1 = some (kO 4 fs478) ∧ (kc ≤ mc ∧ ks ≤ ms ∧ wp_X3_fork G (fun r475 M476 =>
    ((¬ x13 = (8 : Int32) →
    ((s0 = 0 →
      wp_L_law_b231 G mc ms post K43 x0 x1 x2 x3 x4 x5 x6 x7 x8 x10 x13 s0 (-5 : Int32) r475 kc ks M476) ∧
      (¬ s0 = 0 →
      wp_L_law_b231 G mc ms post K43 x0 x1 x2 x3 x4 x5 x6 x7 x8 x10 x13 s0 x13 r475 kc ks M476))) ∧
    (x13 = (8 : Int32) →
    wp_L_law_b231 G mc ms post K43 x0 x1 x2 x3 x4 x5 x6 x7 x8 x10 x13 s0 (-4 : Int32) r475 kc ks M476))) x1 x10 M))
def wp_L_law_b198 (G : k_G) (mc ms : Nat) (post : Int32 → k_M → Prop) (K43 : Nat → Nat → Nat → Nat → Nat → Nat → Nat → Int32 → Nat → Nat → k_M → Prop) (x0 : Nat) (x1 : Nat) (x2 : Nat) (x3 : Nat) (x4 : Nat) (x5 : Nat) (x6 : Nat) (x7 : Int32) (x8 : Int32) (x10 : Int32) (x13 : Int32) (kc : Nat) (ks : Nat) (M : k_M) : Prop :=
  wp_L_law_b199 G mc ms post K43 x0 x1 x2 x3 x4 x5 x6 x7 x8 x10 x13 (0 : Int32) kc ks M
def wp_L_law_b175 (G : k_G) (mc ms : Nat) (post : Int32 → k_M → Prop) (K43 : Nat → Nat → Nat → Nat → Nat → Nat → Nat → Int32 → Nat → Nat → k_M → Prop) (x0 : Nat) (x1 : Nat) (x2 : Nat) (x3 : Nat) (x4 : Nat) (x5 : Nat) (x6 : Nat) (x7 : Int32) (x8 : Int32) (x10 : Int32) (x13 : Int32) (kc : Nat) (ks : Nat) (M : k_M) : Prop :=
  (((8 : Int32) ≤ x13 →
    wp_L_law_b198 G mc ms post K43 x0 x1 x2 x3 x4 x5 x6 x7 x8 x10 x13 kc ks M) ∧
    (¬ (8 : Int32) ≤ x13 →
    (∃ n542 f543, M x2 = some (kI G n542 f543) ∧ vp_in x10 n542 ∧
      (kc ≤ mc ∧ ks ≤ ms ∧ wp_L_bits G (fun r546 M547 =>
      ((r546 ≤ (1 : Int32) →
      wp_L_law_b198 G mc ms post K43 x0 x1 x2 x3 x4 x5 x6 x7 x8 x10 x13 kc ks M547) ∧
      (¬ r546 ≤ (1 : Int32) →
      wp_L_law_b199 G mc ms post K43 x0 x1 x2 x3 x4 x5 x6 x7 x8 x10 x13 (1 : Int32) kc ks M547))) ((f543 (x10).toNatClampNeg)).toInt64 M))))
def wp_L_law_L155 (G : k_G) (mc ms : Nat) (post : Int32 → k_M → Prop) (K43 : Nat → Nat → Nat → Nat → Nat → Nat → Nat → Int32 → Nat → Nat → k_M → Prop) : Nat → Nat → Nat → Nat → Nat → Nat → Nat → Nat → Int32 → Int32 → Int32 → Int32 → Nat → Nat → k_M → Prop
  | 0 => fun _ _ _ _ _ _ _ _ _ _ _ _ _ _ => False
  | n + 1 => fun x0 x1 x2 x3 x4 x5 x6 x7 x8 x10 x13 kc ks M =>
  (((8 : Int32) ≤ x13 →
      wp_L_law_b175 G mc ms post K43 x0 x1 x2 x3 x4 x5 x6 x7 x8 x10 x13 kc ks M) ∧
      (¬ (8 : Int32) ≤ x13 →
      (∃ n551 f552, M x2 = some (kI G n551 f552) ∧ vp_in x13 n551 ∧
        (((f552 (x13).toNatClampNeg) = 0 →
        wp_L_law_b175 G mc ms post K43 x0 x1 x2 x3 x4 x5 x6 x7 x8 x10 x13 kc ks M) ∧
        (¬ (f552 (x13).toNatClampNeg) = 0 →
        (wp_L_law_L155 G mc ms post K43 n) x0 x1 x2 x3 x4 x5 x6 x7 x8 x10 (x13 + (1 : Int32)) kc ks M)))))
def wp_L_law_b144 (G : k_G) (mc ms : Nat) (post : Int32 → k_M → Prop) (K43 : Nat → Nat → Nat → Nat → Nat → Nat → Nat → Int32 → Nat → Nat → k_M → Prop) (x0 : Nat) (x1 : Nat) (x2 : Nat) (x3 : Nat) (x4 : Nat) (x5 : Nat) (x6 : Nat) (x7 : Int32) (x8 : Int32) (x9 : Int32) (x10 : Int32) (x11 : Int32) (s0 : Int32) (kc : Nat) (ks : Nat) (M : k_M) : Prop :=
  (((2 : Int32) ≤ x9 →
    ((¬ x9 = (2 : Int32) →
      (((7 : Int32) ≤ x9 →
        (((9 : Int32) ≤ x9 →
          (((11 : Int32) ≤ x9 →
            wp_L_law_b857 G mc ms post K43 x0 x1 x2 x3 x4 x5 x6 x7 x8 x9 s0 kc ks M) ∧
            (¬ (11 : Int32) ≤ x9 →
            (∃ n167 f168, M x5 = some (kI G n167 f168) ∧ vp_in (0 : Int32) n167 ∧
              (((f168 ((0 : Int32)).toNatClampNeg) ≤ 0 →
              wp_L_law_b857 G mc ms post K43 x0 x1 x2 x3 x4 x5 x6 x7 x8 x9 s0 kc ks M) ∧
              (¬ (f168 ((0 : Int32)).toNatClampNeg) ≤ 0 →
              (∃ n171 f172, M x3 = some (kJ G n171 f172) ∧ vp_in ((2 : Int32) * x10) n171 ∧
                (∃ n175 f176, M x3 = some (kJ G n175 f176) ∧ vp_in (32 : Int32) n175 ∧ ∀ M177 : k_M, M177 = va_up M x3 (some (kJ G n175 (vp_updL f176 ((32 : Int32)).toNatClampNeg (f172 (((2 : Int32) * x10)).toNatClampNeg)))) →
                (∃ n180 f181, M177 x3 = some (kJ G n180 f181) ∧ vp_in (((2 : Int32) * x10) + (1 : Int32)) n180 ∧
                (∃ n184 f185, M177 x3 = some (kJ G n184 f185) ∧ vp_in (33 : Int32) n184 ∧ ∀ M186 : k_M, M186 = va_up M177 x3 (some (kJ G n184 (vp_updL f185 ((33 : Int32)).toNatClampNeg (f181 ((((2 : Int32) * x10) + (1 : Int32))).toNatClampNeg)))) →
                (∃ n189 f190, M186 x4 = some (kJ G n189 f190) ∧ vp_in x10 n189 ∧
                (∃ n193 f194, M186 x4 = some (kJ G n193 f194) ∧ vp_in (16 : Int32) n193 ∧ ∀ M195 : k_M, M195 = va_up M186 x4 (some (kJ G n193 (vp_updL f194 ((16 : Int32)).toNatClampNeg (f190 (x10).toNatClampNeg)))) →
                (kc ≤ mc ∧ ks ≤ ms ∧ wp_L_take G (fun M199 =>
                (∃ n203 f204, M199 x2 = some (kI G n203 f204) ∧ vp_in x10 n203 ∧
                (kc ≤ mc ∧ ks ≤ ms ∧ wp_L_tick G (fun M208 =>
                (∃ fs215, M208 x1 = some (kO 4 fs215) ∧ (kc ≤ mc ∧ ks ≤ ms ∧ wp_X3_ifReceive G (fun r212 M213 =>
                (∃ n218 f219, M213 x4 = some (kJ G n218 f219) ∧ vp_in (16 : Int32) n218 ∧
                (kc ≤ mc ∧ ks ≤ ms ∧ wp_L_bits G (fun r222 M223 =>
                (∃ n227 f228, M223 x4 = some (kJ G n227 f228) ∧ vp_in x10 n227 ∧
                (kc ≤ mc ∧ ks ≤ ms ∧ wp_L_bits G (fun r231 M232 =>
                ((¬ r212 = ((r222 + (1 : Int32)) - r231) →
                kc ≤ mc ∧ ks ≤ ms ∧ post (0 : Int32) M232) ∧
                (r212 = ((r222 + (1 : Int32)) - r231) →
                (∃ fs239, M232 x1 = some (kO 4 fs239) ∧ (kc ≤ mc ∧ ks ≤ ms ∧ wp_X3_ifReceive G (fun r236 M237 =>
                  (kc ≤ mc ∧ ks ≤ ms ∧ wp_L_order G (fun r242 M243 =>
                  ((¬ r236 = r242 →
                  kc ≤ mc ∧ ks ≤ ms ∧ post (0 : Int32) M243) ∧
                  (r236 = r242 →
                  (∃ fs250, M243 x1 = some (kO 4 fs250) ∧ (kc ≤ mc ∧ ks ≤ ms ∧ wp_X3_ifReceive G (fun r247 M248 =>
                    (kc ≤ mc ∧ ks ≤ ms ∧ wp_L_knots G (fun r253 M254 =>
                    ((r247 = r253 →
                    (∃ n258 f259, M254 x3 = some (kJ G n258 f259) ∧ vp_in (32 : Int32) n258 ∧
                      (∃ n262 f263, M254 x3 = some (kJ G n262 f263) ∧ vp_in ((2 : Int32) * x10) n262 ∧ ∀ M264 : k_M, M264 = va_up M254 x3 (some (kJ G n262 (vp_updL f263 (((2 : Int32) * x10)).toNatClampNeg (f259 ((32 : Int32)).toNatClampNeg)))) →
                      (∃ n267 f268, M264 x3 = some (kJ G n267 f268) ∧ vp_in (33 : Int32) n267 ∧
                      (∃ n271 f272, M264 x3 = some (kJ G n271 f272) ∧ vp_in (((2 : Int32) * x10) + (1 : Int32)) n271 ∧ ∀ M273 : k_M, M273 = va_up M264 x3 (some (kJ G n271 (vp_updL f272 ((((2 : Int32) * x10) + (1 : Int32))).toNatClampNeg (f268 ((33 : Int32)).toNatClampNeg)))) →
                      (∃ n276 f277, M273 x4 = some (kJ G n276 f277) ∧ vp_in (16 : Int32) n276 ∧
                      (∃ n280 f281, M273 x5 = some (kI G n280 f281) ∧ vp_in (1 : Int32) n280 ∧
                      (∃ n284 f285, M273 x4 = some (kJ G n284 f285) ∧ vp_in x10 n284 ∧ ∀ M286 : k_M, M286 = va_up M273 x4 (some (kJ G n284 (vp_updL f285 (x10).toNatClampNeg ((f277 ((16 : Int32)).toNatClampNeg) ||| ((1 : Int64) <<< (((f281 ((1 : Int32)).toNatClampNeg)).toInt64 &&& 63)))))) →
                      (∃ n289 f290, M286 x5 = some (kI G n289 f290) ∧ vp_in (1 : Int32) n289 ∧
                      (∃ n293 f294, M286 x6 = some (kI G n293 f294) ∧ vp_in (f290 ((1 : Int32)).toNatClampNeg) n293 ∧ ∀ M295 : k_M, M295 = va_up M286 x6 (some (kI G n293 (upd f294 ((f290 ((1 : Int32)).toNatClampNeg)).toNatClampNeg x10))) →
                      (∃ fs301, M295 x1 = some (kO 4 fs301) ∧ (kc ≤ mc ∧ ks ≤ ms ∧ wp_X3_receive G (fun r298 M299 =>
                      (∃ n304 f305, M299 x5 = some (kI G n304 f305) ∧ vp_in (1 : Int32) n304 ∧
                      (∃ n308 f309, M299 x5 = some (kI G n308 f309) ∧ vp_in (1 : Int32) n308 ∧ ∀ M310 : k_M, M310 = va_up M299 x5 (some (kI G n308 (upd f309 ((1 : Int32)).toNatClampNeg ((f305 ((1 : Int32)).toNatClampNeg) + (1 : Int32))))) →
                      ((r298 = (f305 ((1 : Int32)).toNatClampNeg) →
                      wp_L_law_b988 G mc ms post K43 x0 x1 x2 x3 x4 x5 x6 x7 x8 kc ks M310) ∧
                      (¬ r298 = (f305 ((1 : Int32)).toNatClampNeg) →
                      kc ≤ mc ∧ ks ≤ ms ∧ post (0 : Int32) M310))))) x1 x10 s0 M295)))))))))))) ∧
                    (¬ r247 = r253 →
                    kc ≤ mc ∧ ks ≤ ms ∧ post (0 : Int32) M254))) (16 : Int32) x3 M248)) x1 x10 s0 (2 : Int32) M243))))) (16 : Int32) ((8 : Int32) + s0) x3 M237)) x1 x10 s0 (1 : Int32) M232))))) (f228 (x10).toNatClampNeg) M223))) (f219 ((16 : Int32)).toNatClampNeg) M213))) x1 x10 s0 (0 : Int32) M208))) (16 : Int32) (f204 (x10).toNatClampNeg) x3 M199))) (16 : Int32) ((8 : Int32) + s0) x3 x4 M195))))))))))))) ∧
          (¬ (9 : Int32) ≤ x9 →
          (∃ fs316, M x1 = some (kO 4 fs316) ∧ (kc ≤ mc ∧ ks ≤ ms ∧ wp_X3_send G (fun r313 M314 =>
            (∃ n319 f320, M314 x5 = some (kI G n319 f320) ∧ vp_in (0 : Int32) n319 ∧
            ((¬ (f320 ((0 : Int32)).toNatClampNeg) = (8 : Int32) →
            (∃ n323 f324, M314 x5 = some (kI G n323 f324) ∧ vp_in (0 : Int32) n323 ∧
              wp_L_law_b569 G mc ms post K43 x0 x1 x2 x3 x4 x5 x6 x7 x8 x10 (f324 ((0 : Int32)).toNatClampNeg) r313 kc ks M314)) ∧
            ((f320 ((0 : Int32)).toNatClampNeg) = (8 : Int32) →
            wp_L_law_b569 G mc ms post K43 x0 x1 x2 x3 x4 x5 x6 x7 x8 x10 (-4 : Int32) r313 kc ks M314)))) x1 x10 M))))) ∧
        (¬ (7 : Int32) ≤ x9 →
        (∃ n373 f374, M x2 = some (kI G n373 f374) ∧ vp_in x10 n373 ∧
          (kc ≤ mc ∧ ks ≤ ms ∧ wp_L_tick G (fun M378 =>
          (∃ n382 f383, M378 x4 = some (kJ G n382 f383) ∧ vp_in x10 n382 ∧
          (∃ n386 f387, M378 x5 = some (kI G n386 f387) ∧ vp_in (1 : Int32) n386 ∧
          (∃ n390 f391, M378 x4 = some (kJ G n390 f391) ∧ vp_in x10 n390 ∧ ∀ M392 : k_M, M392 = va_up M378 x4 (some (kJ G n390 (vp_updL f391 (x10).toNatClampNeg ((f383 (x10).toNatClampNeg) ||| ((1 : Int64) <<< (((f387 ((1 : Int32)).toNatClampNeg)).toInt64 &&& 63)))))) →
          (∃ n395 f396, M392 x5 = some (kI G n395 f396) ∧ vp_in (1 : Int32) n395 ∧
          (∃ n399 f400, M392 x6 = some (kI G n399 f400) ∧ vp_in (f396 ((1 : Int32)).toNatClampNeg) n399 ∧ ∀ M401 : k_M, M401 = va_up M392 x6 (some (kI G n399 (upd f400 ((f396 ((1 : Int32)).toNatClampNeg)).toNatClampNeg x10))) →
          (∃ fs407, M401 x1 = some (kO 4 fs407) ∧ (kc ≤ mc ∧ ks ≤ ms ∧ wp_X3_event G (fun r404 M405 =>
          (∃ n410 f411, M405 x5 = some (kI G n410 f411) ∧ vp_in (1 : Int32) n410 ∧
          (∃ n414 f415, M405 x5 = some (kI G n414 f415) ∧ vp_in (1 : Int32) n414 ∧ ∀ M416 : k_M, M416 = va_up M405 x5 (some (kI G n414 (upd f415 ((1 : Int32)).toNatClampNeg ((f411 ((1 : Int32)).toNatClampNeg) + (1 : Int32))))) →
          ((r404 = (f411 ((1 : Int32)).toNatClampNeg) →
          wp_L_law_b988 G mc ms post K43 x0 x1 x2 x3 x4 x5 x6 x7 x8 kc ks M416) ∧
          (¬ r404 = (f411 ((1 : Int32)).toNatClampNeg) →
          kc ≤ mc ∧ ks ≤ ms ∧ post (0 : Int32) M416))))) x1 x10 M401)))))))) x10 (f374 (x10).toNatClampNeg) x3 M))))) ∧
      (x9 = (2 : Int32) →
      (∃ n419 f420, M x2 = some (kI G n419 f420) ∧ vp_in x11 n419 ∧
        (((f420 (x11).toNatClampNeg) = 0 →
        wp_L_law_b386 G mc ms post K43 x0 x1 x2 x3 x4 x5 x6 x7 x8 x10 x11 kc ks M) ∧
        (¬ (f420 (x11).toNatClampNeg) = 0 →
        ((x11 = x10 →
          wp_L_law_b386 G mc ms post K43 x0 x1 x2 x3 x4 x5 x6 x7 x8 x10 x11 kc ks M) ∧
          (¬ x11 = x10 →
          wp_L_law_b387 G mc ms post K43 x0 x1 x2 x3 x4 x5 x6 x7 x8 x10 x11 (1 : Int32) kc ks M)))))))) ∧
    (¬ (2 : Int32) ≤ x9 →
    ∃ k474, wp_L_law_L155 G mc ms post K43 k474 x0 x1 x2 x3 x4 x5 x6 x7 x8 x10 (0 : Int32) kc ks M))
def wp_L_law_b110 (G : k_G) (mc ms : Nat) (post : Int32 → k_M → Prop) (K43 : Nat → Nat → Nat → Nat → Nat → Nat → Nat → Int32 → Nat → Nat → k_M → Prop) (x0 : Nat) (x1 : Nat) (x2 : Nat) (x3 : Nat) (x4 : Nat) (x5 : Nat) (x6 : Nat) (x7 : Int32) (x8 : Int32) (x9 : Int32) (x10 : Int32) (kc : Nat) (ks : Nat) (M : k_M) : Prop :=
  (kc ≤ mc ∧ ks ≤ ms ∧ wp_L_low G (fun r74 M75 =>
    (∃ n79 f80, M75 x5 = some (kI G n79 f80) ∧ vp_in (0 : Int32) n79 ∧
    ((¬ (f80 ((0 : Int32)).toNatClampNeg) = 0 →
    (∃ n83 f84, M75 x5 = some (kI G n83 f84) ∧ vp_in (0 : Int32) n83 ∧
      (kc ≤ mc ∧ ks ≤ ms ∧ wp_L_low G (fun r87 M88 =>
      wp_L_law_b144 G mc ms post K43 x0 x1 x2 x3 x4 x5 x6 x7 x8 x9 x10 r74 r87 kc ks M88) (x8 >>> ((5 : Int32) &&& 31)) (f84 ((0 : Int32)).toNatClampNeg) M75))) ∧
    ((f80 ((0 : Int32)).toNatClampNeg) = 0 →
    wp_L_law_b144 G mc ms post K43 x0 x1 x2 x3 x4 x5 x6 x7 x8 x9 x10 r74 (0 : Int32) kc ks M75)))) (x8 >>> ((7 : Int32) &&& 31)) (8 : Int32) M)
def wp_L_law_L81 (G : k_G) (mc ms : Nat) (post : Int32 → k_M → Prop) (K43 : Nat → Nat → Nat → Nat → Nat → Nat → Nat → Int32 → Nat → Nat → k_M → Prop) : Nat → Nat → Nat → Nat → Nat → Nat → Nat → Nat → Int32 → Int32 → Int32 → Int32 → Int32 → Nat → Nat → k_M → Prop
  | 0 => fun _ _ _ _ _ _ _ _ _ _ _ _ _ _ _ => False
  | n + 1 => fun x0 x1 x2 x3 x4 x5 x6 x7 x8 x9 x10 x11 kc ks M =>
  (((8 : Int32) ≤ x11 →
      wp_L_law_b110 G mc ms post K43 x0 x1 x2 x3 x4 x5 x6 x7 x8 x9 x10 kc ks M) ∧
      (¬ (8 : Int32) ≤ x11 →
      (∃ n555 f556, M x2 = some (kI G n555 f556) ∧ vp_in x10 n555 ∧
        ((¬ (f556 (x10).toNatClampNeg) = 0 →
        wp_L_law_b110 G mc ms post K43 x0 x1 x2 x3 x4 x5 x6 x7 x8 x9 x10 kc ks M) ∧
        ((f556 (x10).toNatClampNeg) = 0 →
        (∀ y559 : Int32, y559 = ((x10 + (1 : Int32)) - (x10 + (1 : Int32)) / (8 : Int32) * (8 : Int32)) →
          (wp_L_law_L81 G mc ms post K43 n) x0 x1 x2 x3 x4 x5 x6 x7 x8 x9 y559 (x11 + (1 : Int32)) kc ks M))))))
def wp_L_law_L43 (G : k_G) (mc ms : Nat) (post : Int32 → k_M → Prop) : Nat → Nat → Nat → Nat → Nat → Nat → Nat → Nat → Int32 → Nat → Nat → k_M → Prop
  | 0 => fun _ _ _ _ _ _ _ _ _ _ _ => False
  | n + 1 => fun x0 x1 x2 x3 x4 x5 x6 x7 kc ks M =>
  (((28 : Int32) ≤ x7 →
      kc ≤ mc ∧ ks ≤ ms ∧ post (1 : Int32) M) ∧
      (¬ (28 : Int32) ≤ x7 →
      (kc ≤ mc ∧ ks ≤ ms ∧ wp_L_cell G (fun r58 M59 =>
        (kc ≤ mc ∧ ks ≤ ms ∧ wp_L_low G (fun r63 M64 =>
        (kc ≤ mc ∧ ks ≤ ms ∧ wp_L_low G (fun r68 M69 =>
        ∃ k73, wp_L_law_L81 G mc ms post (wp_L_law_L43 G mc ms post n) k73 x0 x1 x2 x3 x4 x5 x6 x7 r58 r63 r68 (0 : Int32) kc ks M69) (r58 >>> ((4 : Int32) &&& 31)) (8 : Int32) M64)) r58 (12 : Int32) M59)) x0 x7 M)))
def wp_L_law (G : k_G) (mc ms : Nat) (post : Int32 → k_M → Prop) (p0 : Nat) (M0 : k_M) : Prop :=
  (0 + 1 ≤ mc ∧ 0 + 8 ≤ ms ∧ ∀ (q1 : Nat) (M2 : k_M), M0 q1 = none → M2 = va_up M0 q1 (some (kO 4 [.null, .null, .int 0, .null, .null, .null, .null, .null])) →
  (∃ mc5 ms6 : Nat, (0 + 1) + mc5 ≤ mc ∧ (0 + 8) + ms6 ≤ ms ∧ wp_X3_init G mc5 ms6 (fun M8 =>
  (∃ N12 : Nat, ¬ (16 : Int32) < 0 ∧ ((16 : Int32)).toNatClampNeg = N12 ∧ N12 * 4 ≤ 536870912 ∧ ((0 + 1) + mc5) + 1 ≤ mc ∧ ((0 + 8) + ms6) + N12 ≤ ms ∧ ∀ (q13 : Nat) (M14 : k_M), M8 q13 = none → M14 = va_up M8 q13 (some (kI G N12 (fun _ => 0))) →
  (∃ N20 : Nat, ¬ (34 : Int32) < 0 ∧ ((34 : Int32)).toNatClampNeg = N20 ∧ N20 * 8 ≤ 536870912 ∧ (((0 + 1) + mc5) + 1) + 1 ≤ mc ∧ (((0 + 8) + ms6) + N12) + N20 ≤ ms ∧ ∀ (q21 : Nat) (M22 : k_M), M14 q21 = none → M22 = va_up M14 q21 (some (kJ G N20 (fun _ => 0))) →
  (∃ N28 : Nat, ¬ (17 : Int32) < 0 ∧ ((17 : Int32)).toNatClampNeg = N28 ∧ N28 * 8 ≤ 536870912 ∧ ((((0 + 1) + mc5) + 1) + 1) + 1 ≤ mc ∧ ((((0 + 8) + ms6) + N12) + N20) + N28 ≤ ms ∧ ∀ (q29 : Nat) (M30 : k_M), M22 q29 = none → M30 = va_up M22 q29 (some (kJ G N28 (fun _ => 0))) →
  (∃ N36 : Nat, ¬ (2 : Int32) < 0 ∧ ((2 : Int32)).toNatClampNeg = N36 ∧ N36 * 4 ≤ 536870912 ∧ (((((0 + 1) + mc5) + 1) + 1) + 1) + 1 ≤ mc ∧ (((((0 + 8) + ms6) + N12) + N20) + N28) + N36 ≤ ms ∧ ∀ (q37 : Nat) (M38 : k_M), M30 q37 = none → M38 = va_up M30 q37 (some (kI G N36 (fun _ => 0))) →
  (∃ N44 : Nat, ¬ (40 : Int32) < 0 ∧ ((40 : Int32)).toNatClampNeg = N44 ∧ N44 * 4 ≤ 536870912 ∧ ((((((0 + 1) + mc5) + 1) + 1) + 1) + 1) + 1 ≤ mc ∧ ((((((0 + 8) + ms6) + N12) + N20) + N28) + N36) + N44 ≤ ms ∧ ∀ (q45 : Nat) (M46 : k_M), M38 q45 = none → M46 = va_up M38 q45 (some (kI G N44 (fun _ => 0))) →
  (∃ n52 f53, M46 q13 = some (kI G n52 f53) ∧ vp_in (0 : Int32) n52 ∧ ∀ M54 : k_M, M54 = va_up M46 q13 (some (kI G n52 (upd f53 ((0 : Int32)).toNatClampNeg (65535 : Int32)))) →
  ∃ k57, wp_L_law_L43 G mc ms post k57 p0 q1 q13 q21 q29 q37 q45 (0 : Int32) (((((((0 + 1) + mc5) + 1) + 1) + 1) + 1) + 1) (((((((0 + 8) + ms6) + N12) + N20) + N28) + N36) + N44) M54))))))) q1 M2))
theorem in_L_law_X3 : ∀ w ∈ wsX30, w ∈ wsL_law := inlX3
set_option maxHeartbeats 8000000 in
set_option maxRecDepth 100000 in
theorem law_walk {p : Program} {e : Env} {s : State} {m : MethodId} {below : List Frame} {meth : Method} {c : Code} (l : Launch) {b L : Nat} {xs : Nat → Int32} {G : k_G} (C0 : lw_At p s m meth c b L xs) (hE : kE G (fun q : Nat => s.heap.size ≤ q) s) (hR : kR G (fun _ => none) (fun q : Nat => s.heap.size ≤ q) s.heap) (h : wp_L_law G 600000 7302250 (fun r _ => r = 1) b (fun _ => none)) : W p l e room_1 s m #[Value.ref b] below meth c s.heap [] 0 0 (lw_Z below #[Value.ref b] s) (entryFrame m ([Value.ref b] : List Value).toArray 18) := by
  obtain ⟨hx, hb, hr, hml, hown0, hts0, hX, hbl, hlocks, hgv⟩ := id C0
  have hts := lw_hts hts0
  have hown : s.vm.findClass RL = some m.cls := hown0
  have hK := hE.1
  have hA : ∀ q : Nat, s.heap.size ≤ q → (fun q : Nat => s.heap.size ≤ q) q := fun _ h => h
  have hS : va_S (fun q : Nat => s.heap.size ≤ q) s.heap s.heap [] := va_S.rf
  have hw1 := hts (.classLink RL 33 RX3) (by decide +kernel)
  have hw2 := hts (.instantiable RX3 8) (by decide +kernel)
  have hw3 := hts (.initialized RX3) (by decide +kernel)
  have hw4 := hts (.methodLink RL 81 yX3_init) (by decide +kernel)
  have hw5 := hts (.instanceMethod yX3_init) (by decide +kernel)
  have hw6 := hts (.arrayClass .int) (by decide +kernel)
  have hw7 := hts (.arrayClass .long) (by decide +kernel)
  have hw8 := hts (.constant RL 82 (65535)) (by decide +kernel)
  have b988 : ∀ (K43 : Nat → Nat → Nat → Nat → Nat → Nat → Nat → Int32 → Nat → Nat → k_M → Prop) (hK43 : ∀ (x0 : Nat) (x1 : Nat) (x2 : Nat) (x3 : Nat) (x4 : Nat) (x5 : Nat) (x6 : Nat) (x7 : Int32) (kc : Nat) (ks : Nat) (M : k_M) (H : Heap) (locs : List Loc) (ls : Array Slot), K43 x0 x1 x2 x3 x4 x5 x6 x7 kc ks M → lv_has ls 18 [(0, .ref x0), (1, .ref x1), (2, .ref x2), (3, .ref x3), (4, .ref x4), (5, .ref x5), (6, .ref x6), (7, .int x7)] → kR G M (fun q : Nat => s.heap.size ≤ q) H → va_S (fun q : Nat => s.heap.size ≤ q) s.heap H locs → W p l e room_1 s m #[Value.ref b] below meth c H locs kc ks (lw_Z below #[Value.ref b] s) (F0 m 43 ls [])), ∀ (x0 : Nat) (x1 : Nat) (x2 : Nat) (x3 : Nat) (x4 : Nat) (x5 : Nat) (x6 : Nat) (x7 : Int32) (x8 : Int32) (kc : Nat) (ks : Nat) (M : k_M) (H : Heap) (locs : List Loc) (ls : Array Slot), wp_L_law_b988 G 600000 7302250 (fun r _ => r = 1) K43 x0 x1 x2 x3 x4 x5 x6 x7 x8 kc ks M → lv_has ls 18 [(0, .ref x0), (1, .ref x1), (2, .ref x2), (3, .ref x3), (4, .ref x4), (5, .ref x5), (6, .ref x6), (7, .int x7), (8, .int x8)] → kR G M (fun q : Nat => s.heap.size ≤ q) H → va_S (fun q : Nat => s.heap.size ≤ q) s.heap H locs → W p l e room_1 s m #[Value.ref b] below meth c H locs kc ks (lw_Z below #[Value.ref b] s) (F0 m 988 ls []) := by
    intro K43 hK43 x0 x1 x2 x3 x4 x5 x6 x7 x8 kc ks M H locs ls h hl hR hS
    refine lv_aload_n hx hb dL_law_988 rfl (lv_at hl 1 rfl) ?_
    refine lv_iload hx hb dL_law_989 (lv_at hl 8 rfl) ?_
    refine lv_iconst (v := (3 : Int32)) hx hb dL_law_991 (by decide) ?_
    refine lv_ishr hx hb dL_law_992 ?_
    refine lv_aload_n hx hb dL_law_993 rfl (lv_at hl 2 rfl) ?_
    refine lv_aload_n hx hb dL_law_994 rfl (lv_at hl 3 rfl) ?_
    refine lv_aload hx hb dL_law_995 (lv_at hl 4 rfl) ?_
    refine lv_aload hx hb dL_law_997 (lv_at hl 5 rfl) ?_
    refine lv_aload hx hb dL_law_999 (lv_at hl 6 rfl) ?_
    obtain ⟨mc92, ms93, hc97, hc98, h⟩ := h
    refine k_calli (va_runS (As := [.ref x1, .int (x8 >>> ((3 : Int32) &&& 31)), .ref x2, .ref x3, .ref x4, .ref x5, .ref x6]) (rest := []) ⟨hx, hb, hml, hown, hts⟩ (c_L_same l G mc92 ms93 _ _ _ x1 (x8 >>> ((3 : Int32) &&& 31)) x2 x3 x4 x5 x6 h) (va_cwS 7 hts gL_law_L_same rfl rfl rfl (by decide +kernel) ⟨Nat.le_of_ble_eq_true rfl, Nat.le_of_ble_eq_true rfl⟩) (k_preS hR hS hA hE) rfl rfl hl.1 rfl (lv_room (Nat.le_of_ble_eq_true rfl)) dL_law_1001 ⟨hc97, hc98⟩) hR hS hA (fun r94 M95 H locs h hR hS => ?_)
    obtain ⟨ha, hb2⟩ := h
    refine lv_if_ne (tgt := 1009) hx hb dL_law_1004 (by decide) (fun hc => ?_) (fun hc => ?_)
    · replace h := ha hc
      refine lv_iinc (v := (x7 + (1 : Int32))) (lv' := [(7, .int (x7 + (1 : Int32))), (0, .ref x0), (1, .ref x1), (2, .ref x2), (3, .ref x3), (4, .ref x4), (5, .ref x5), (6, .ref x6), (8, .int x8)]) hx hb dL_law_1009 hl (k := 7) rfl rfl (by decide) rfl (fun ls hl => ?_)
      refine lv_goto (tgt := 43) hx hb dL_law_1012 (by decide) ?_
      exact hK43 _ _ _ _ _ _ _ _ _ _ _ _ _ _ h (lv_sub hl [1, 2, 3, 4, 5, 6, 7, 0] rfl) hR hS
    · replace h := hb2 hc
      refine lv_iconst (v := (0 : Int32)) hx hb dL_law_1007 (by decide) ?_
      obtain ⟨hwc, hws, h⟩ := h
      exact absurd (show (0 : Int32) = 1 from h) (by decide)
  have b986 : ∀ (K43 : Nat → Nat → Nat → Nat → Nat → Nat → Nat → Int32 → Nat → Nat → k_M → Prop) (hK43 : ∀ (x0 : Nat) (x1 : Nat) (x2 : Nat) (x3 : Nat) (x4 : Nat) (x5 : Nat) (x6 : Nat) (x7 : Int32) (kc : Nat) (ks : Nat) (M : k_M) (H : Heap) (locs : List Loc) (ls : Array Slot), K43 x0 x1 x2 x3 x4 x5 x6 x7 kc ks M → lv_has ls 18 [(0, .ref x0), (1, .ref x1), (2, .ref x2), (3, .ref x3), (4, .ref x4), (5, .ref x5), (6, .ref x6), (7, .int x7)] → kR G M (fun q : Nat => s.heap.size ≤ q) H → va_S (fun q : Nat => s.heap.size ≤ q) s.heap H locs → W p l e room_1 s m #[Value.ref b] below meth c H locs kc ks (lw_Z below #[Value.ref b] s) (F0 m 43 ls [])), ∀ (x0 : Nat) (x1 : Nat) (x2 : Nat) (x3 : Nat) (x4 : Nat) (x5 : Nat) (x6 : Nat) (x7 : Int32) (x8 : Int32) (s0 : Int32) (s1 : Int32) (s2 : Int32) (s3 : Nat) (kc : Nat) (ks : Nat) (M : k_M) (H : Heap) (locs : List Loc) (ls : Array Slot), wp_L_law_b986 G 600000 7302250 (fun r _ => r = 1) K43 x0 x1 x2 x3 x4 x5 x6 x7 x8 s0 s1 s2 s3 kc ks M → lv_has ls 18 [(0, .ref x0), (1, .ref x1), (2, .ref x2), (3, .ref x3), (4, .ref x4), (5, .ref x5), (6, .ref x6), (7, .int x7), (8, .int x8)] → kR G M (fun q : Nat => s.heap.size ≤ q) H → va_S (fun q : Nat => s.heap.size ≤ q) s.heap H locs → W p l e room_1 s m #[Value.ref b] below meth c H locs kc ks (lw_Z below #[Value.ref b] s) (F0 m 986 ls [.int s0, .int s1, .int s2, .ref s3]) := by
    intro K43 hK43 x0 x1 x2 x3 x4 x5 x6 x7 x8 s0 s1 s2 s3 kc ks M H locs ls h hl hR hS
    refine lv_isub hx hb dL_law_986 ?_
    obtain ⟨n126, f127, hm129, hv130, h⟩ := h
    replace h := h _ rfl
    refine k_iast hx hb hK hR hS hm129 hv130 dL_law_987 (fun H locs hR hS => ?_)
    exact b988 _ hK43 _ _ _ _ _ _ _ _ _ _ _ _ _ _ _ h (lv_sub hl [0, 1, 2, 3, 4, 5, 6, 7, 8] rfl) hR hS
  have L899 : ∀ (K43 : Nat → Nat → Nat → Nat → Nat → Nat → Nat → Int32 → Nat → Nat → k_M → Prop) (hK43 : ∀ (x0 : Nat) (x1 : Nat) (x2 : Nat) (x3 : Nat) (x4 : Nat) (x5 : Nat) (x6 : Nat) (x7 : Int32) (kc : Nat) (ks : Nat) (M : k_M) (H : Heap) (locs : List Loc) (ls : Array Slot), K43 x0 x1 x2 x3 x4 x5 x6 x7 kc ks M → lv_has ls 18 [(0, .ref x0), (1, .ref x1), (2, .ref x2), (3, .ref x3), (4, .ref x4), (5, .ref x5), (6, .ref x6), (7, .int x7)] → kR G M (fun q : Nat => s.heap.size ≤ q) H → va_S (fun q : Nat => s.heap.size ≤ q) s.heap H locs → W p l e room_1 s m #[Value.ref b] below meth c H locs kc ks (lw_Z below #[Value.ref b] s) (F0 m 43 ls [])) (n : Nat), ∀ (x0 : Nat) (x1 : Nat) (x2 : Nat) (x3 : Nat) (x4 : Nat) (x5 : Nat) (x6 : Nat) (x7 : Int32) (x8 : Int32) (x13 : Int32) (kc : Nat) (ks : Nat) (M : k_M) (H : Heap) (locs : List Loc) (ls : Array Slot), wp_L_law_L899 G 600000 7302250 (fun r _ => r = 1) K43 n x0 x1 x2 x3 x4 x5 x6 x7 x8 x13 kc ks M → lv_has ls 18 [(0, .ref x0), (1, .ref x1), (2, .ref x2), (3, .ref x3), (4, .ref x4), (5, .ref x5), (6, .ref x6), (7, .int x7), (8, .int x8), (13, .int x13)] → kR G M (fun q : Nat => s.heap.size ≤ q) H → va_S (fun q : Nat => s.heap.size ≤ q) s.heap H locs → W p l e room_1 s m #[Value.ref b] below meth c H locs kc ks (lw_Z below #[Value.ref b] s) (F0 m 899 ls []) := by
    intro K43 hK43 n
    induction n with
    | zero =>
      intro  x0 x1 x2 x3 x4 x5 x6 x7 x8 x13 kc ks M H locs ls h
      exact False.elim h
    | succ n ih =>
      intro  x0 x1 x2 x3 x4 x5 x6 x7 x8 x13 kc ks M H locs ls h hl hR hS
      refine lv_iload hx hb dL_law_899 (lv_at hl 9 rfl) ?_
      refine lv_bipush (v := (7 : Int32)) hx hb dL_law_901 (by decide) ?_
      refine lv_aload hx hb dL_law_903 (lv_at hl 5 rfl) ?_
      refine lv_iconst (v := (0 : Int32)) hx hb dL_law_905 (by decide) ?_
      obtain ⟨n114, f115, hm116, hv117, h⟩ := h
      refine k_iald hx hb hK hR hm116 hv117 dL_law_906 ?_
      refine lv_iadd hx hb dL_law_907 ?_
      obtain ⟨ha, hb2⟩ := h
      refine lv_icmp_ge (tgt := 969) hx hb dL_law_908 (by decide) (fun hc => ?_) (fun hc => ?_)
      · replace h := ha hc
        refine lv_aload hx hb dL_law_969 (lv_at hl 5 rfl) ?_
        refine lv_iconst (v := (0 : Int32)) hx hb dL_law_971 (by decide) ?_
        refine lv_dup2_11 hx hb dL_law_972 rfl rfl ?_
        obtain ⟨n118, f119, hm120, hv121, h⟩ := h
        refine k_iald hx hb hK hR hm120 hv121 dL_law_973 ?_
        refine lv_aload hx hb dL_law_974 (lv_at hl 5 rfl) ?_
        refine lv_iconst (v := (0 : Int32)) hx hb dL_law_976 (by decide) ?_
        obtain ⟨n122, f123, hm124, hv125, h⟩ := h
        refine k_iald hx hb hK hR hm124 hv125 dL_law_977 ?_
        obtain ⟨ha, hb2⟩ := h
        refine lv_if_le (tgt := 985) hx hb dL_law_978 (by decide) (fun hc => ?_) (fun hc => ?_)
        · replace h := ha hc
          refine lv_iconst (v := (0 : Int32)) hx hb dL_law_985 (by decide) ?_
          exact b986 _ hK43 _ _ _ _ _ _ _ _ _ _ _ _ _ _ _ _ _ _ _ h (lv_sub hl [0, 1, 2, 3, 4, 5, 6, 7, 8] rfl) hR hS
        · replace h := hb2 hc
          refine lv_iconst (v := (1 : Int32)) hx hb dL_law_981 (by decide) ?_
          refine lv_goto (tgt := 986) hx hb dL_law_982 (by decide) ?_
          exact b986 _ hK43 _ _ _ _ _ _ _ _ _ _ _ _ _ _ _ _ _ _ _ h (lv_sub hl [0, 1, 2, 3, 4, 5, 6, 7, 8] rfl) hR hS
      · replace h := hb2 hc
        refine lv_aload_n hx hb dL_law_911 rfl (lv_at hl 2 rfl) ?_
        refine lv_iload hx hb dL_law_912 (lv_at hl 9 rfl) ?_
        refine lv_aload_n hx hb dL_law_914 rfl (lv_at hl 2 rfl) ?_
        refine lv_iload hx hb dL_law_915 (lv_at hl 9 rfl) ?_
        refine lv_iconst (v := (1 : Int32)) hx hb dL_law_917 (by decide) ?_
        refine lv_iadd hx hb dL_law_918 ?_
        obtain ⟨n131, f132, hm133, hv134, h⟩ := h
        refine k_iald hx hb hK hR hm133 hv134 dL_law_919 ?_
        obtain ⟨n135, f136, hm138, hv139, h⟩ := h
        replace h := h _ rfl
        refine k_iast hx hb hK hR hS hm138 hv139 dL_law_920 (fun H locs hR hS => ?_)
        refine lv_aload_n hx hb dL_law_921 rfl (lv_at hl 3 rfl) ?_
        refine lv_iconst (v := (2 : Int32)) hx hb dL_law_922 (by decide) ?_
        refine lv_iload hx hb dL_law_923 (lv_at hl 9 rfl) ?_
        refine lv_imul hx hb dL_law_925 ?_
        refine lv_aload_n hx hb dL_law_926 rfl (lv_at hl 3 rfl) ?_
        refine lv_iconst (v := (2 : Int32)) hx hb dL_law_927 (by decide) ?_
        refine lv_iload hx hb dL_law_928 (lv_at hl 9 rfl) ?_
        refine lv_imul hx hb dL_law_930 ?_
        refine lv_iconst (v := (2 : Int32)) hx hb dL_law_931 (by decide) ?_
        refine lv_iadd hx hb dL_law_932 ?_
        obtain ⟨n140, f141, hm142, hv143, h⟩ := h
        refine k_lald hx hb hK hR hm142 hv143 dL_law_933 ?_
        obtain ⟨n144, f145, hm147, hv148, h⟩ := h
        replace h := h _ rfl
        refine k_last hx hb hK hR hS hm147 hv148 dL_law_934 (fun H locs hR hS => ?_)
        refine lv_aload_n hx hb dL_law_935 rfl (lv_at hl 3 rfl) ?_
        refine lv_iconst (v := (2 : Int32)) hx hb dL_law_936 (by decide) ?_
        refine lv_iload hx hb dL_law_937 (lv_at hl 9 rfl) ?_
        refine lv_imul hx hb dL_law_939 ?_
        refine lv_iconst (v := (1 : Int32)) hx hb dL_law_940 (by decide) ?_
        refine lv_iadd hx hb dL_law_941 ?_
        refine lv_aload_n hx hb dL_law_942 rfl (lv_at hl 3 rfl) ?_
        refine lv_iconst (v := (2 : Int32)) hx hb dL_law_943 (by decide) ?_
        refine lv_iload hx hb dL_law_944 (lv_at hl 9 rfl) ?_
        refine lv_imul hx hb dL_law_946 ?_
        refine lv_iconst (v := (3 : Int32)) hx hb dL_law_947 (by decide) ?_
        refine lv_iadd hx hb dL_law_948 ?_
        obtain ⟨n149, f150, hm151, hv152, h⟩ := h
        refine k_lald hx hb hK hR hm151 hv152 dL_law_949 ?_
        obtain ⟨n153, f154, hm156, hv157, h⟩ := h
        replace h := h _ rfl
        refine k_last hx hb hK hR hS hm156 hv157 dL_law_950 (fun H locs hR hS => ?_)
        refine lv_aload hx hb dL_law_951 (lv_at hl 4 rfl) ?_
        refine lv_iload hx hb dL_law_953 (lv_at hl 9 rfl) ?_
        refine lv_aload hx hb dL_law_955 (lv_at hl 4 rfl) ?_
        refine lv_iload hx hb dL_law_957 (lv_at hl 9 rfl) ?_
        refine lv_iconst (v := (1 : Int32)) hx hb dL_law_959 (by decide) ?_
        refine lv_iadd hx hb dL_law_960 ?_
        obtain ⟨n158, f159, hm160, hv161, h⟩ := h
        refine k_lald hx hb hK hR hm160 hv161 dL_law_961 ?_
        obtain ⟨n162, f163, hm165, hv166, h⟩ := h
        replace h := h _ rfl
        refine k_last hx hb hK hR hS hm165 hv166 dL_law_962 (fun H locs hR hS => ?_)
        refine lv_iinc (v := (x13 + (1 : Int32))) (lv' := [(13, .int (x13 + (1 : Int32))), (0, .ref x0), (1, .ref x1), (2, .ref x2), (3, .ref x3), (4, .ref x4), (5, .ref x5), (6, .ref x6), (7, .int x7), (8, .int x8)]) hx hb dL_law_963 hl (k := 9) rfl rfl (by decide) rfl (fun ls hl => ?_)
        refine lv_goto (tgt := 899) hx hb dL_law_966 (by decide) ?_
        exact ih _ _ _ _ _ _ _ _ _ _ _ _ _ _ _ _ h (lv_sub hl [1, 2, 3, 4, 5, 6, 7, 8, 9, 0] rfl) hR hS
  have b887 : ∀ (K43 : Nat → Nat → Nat → Nat → Nat → Nat → Nat → Int32 → Nat → Nat → k_M → Prop) (hK43 : ∀ (x0 : Nat) (x1 : Nat) (x2 : Nat) (x3 : Nat) (x4 : Nat) (x5 : Nat) (x6 : Nat) (x7 : Int32) (kc : Nat) (ks : Nat) (M : k_M) (H : Heap) (locs : List Loc) (ls : Array Slot), K43 x0 x1 x2 x3 x4 x5 x6 x7 kc ks M → lv_has ls 18 [(0, .ref x0), (1, .ref x1), (2, .ref x2), (3, .ref x3), (4, .ref x4), (5, .ref x5), (6, .ref x6), (7, .int x7)] → kR G M (fun q : Nat => s.heap.size ≤ q) H → va_S (fun q : Nat => s.heap.size ≤ q) s.heap H locs → W p l e room_1 s m #[Value.ref b] below meth c H locs kc ks (lw_Z below #[Value.ref b] s) (F0 m 43 ls [])), ∀ (x0 : Nat) (x1 : Nat) (x2 : Nat) (x3 : Nat) (x4 : Nat) (x5 : Nat) (x6 : Nat) (x7 : Int32) (x8 : Int32) (x12 : Int32) (s0 : Int32) (s1 : Int32) (kc : Nat) (ks : Nat) (M : k_M) (H : Heap) (locs : List Loc) (ls : Array Slot), wp_L_law_b887 G 600000 7302250 (fun r _ => r = 1) K43 x0 x1 x2 x3 x4 x5 x6 x7 x8 x12 s0 s1 kc ks M → lv_has ls 18 [(0, .ref x0), (1, .ref x1), (2, .ref x2), (3, .ref x3), (4, .ref x4), (5, .ref x5), (6, .ref x6), (7, .int x7), (8, .int x8), (12, .int x12)] → kR G M (fun q : Nat => s.heap.size ≤ q) H → va_S (fun q : Nat => s.heap.size ≤ q) s.heap H locs → W p l e room_1 s m #[Value.ref b] below meth c H locs kc ks (lw_Z below #[Value.ref b] s) (F0 m 887 ls [.int s0, .int s1]) := by
    intro K43 hK43 x0 x1 x2 x3 x4 x5 x6 x7 x8 x12 s0 s1 kc ks M H locs ls h hl hR hS
    obtain ⟨ha, hb2⟩ := h
    refine lv_icmp_eq (tgt := 892) hx hb dL_law_887 (by decide) (fun hc => ?_) (fun hc => ?_)
    · replace h := ha hc
      refine lv_bipush (v := (8 : Int32)) hx hb dL_law_892 (by decide) ?_
      refine lv_iload hx hb dL_law_894 (lv_at hl 9 rfl) ?_
      refine lv_iadd hx hb dL_law_896 ?_
      refine lv_istore (lv' := [(13, .int ((8 : Int32) + x12)), (0, .ref x0), (1, .ref x1), (2, .ref x2), (3, .ref x3), (4, .ref x4), (5, .ref x5), (6, .ref x6), (7, .int x7), (8, .int x8), (12, .int x12)]) hx hb dL_law_897 hl (by decide) rfl (fun ls hl => ?_)
      obtain ⟨k113, h⟩ := h
      exact L899 _ hK43 k113 _ _ _ _ _ _ _ _ _ _ _ _ _ _ _ _ h (lv_sub hl [1, 2, 3, 4, 5, 6, 7, 8, 9, 0] rfl) hR hS
    · replace h := hb2 hc
      refine lv_iconst (v := (0 : Int32)) hx hb dL_law_890 (by decide) ?_
      obtain ⟨hwc, hws, h⟩ := h
      exact absurd (show (0 : Int32) = 1 from h) (by decide)
  have b857 : ∀ (K43 : Nat → Nat → Nat → Nat → Nat → Nat → Nat → Int32 → Nat → Nat → k_M → Prop) (hK43 : ∀ (x0 : Nat) (x1 : Nat) (x2 : Nat) (x3 : Nat) (x4 : Nat) (x5 : Nat) (x6 : Nat) (x7 : Int32) (kc : Nat) (ks : Nat) (M : k_M) (H : Heap) (locs : List Loc) (ls : Array Slot), K43 x0 x1 x2 x3 x4 x5 x6 x7 kc ks M → lv_has ls 18 [(0, .ref x0), (1, .ref x1), (2, .ref x2), (3, .ref x3), (4, .ref x4), (5, .ref x5), (6, .ref x6), (7, .int x7)] → kR G M (fun q : Nat => s.heap.size ≤ q) H → va_S (fun q : Nat => s.heap.size ≤ q) s.heap H locs → W p l e room_1 s m #[Value.ref b] below meth c H locs kc ks (lw_Z below #[Value.ref b] s) (F0 m 43 ls [])), ∀ (x0 : Nat) (x1 : Nat) (x2 : Nat) (x3 : Nat) (x4 : Nat) (x5 : Nat) (x6 : Nat) (x7 : Int32) (x8 : Int32) (x9 : Int32) (x12 : Int32) (kc : Nat) (ks : Nat) (M : k_M) (H : Heap) (locs : List Loc) (ls : Array Slot), wp_L_law_b857 G 600000 7302250 (fun r _ => r = 1) K43 x0 x1 x2 x3 x4 x5 x6 x7 x8 x9 x12 kc ks M → lv_has ls 18 [(0, .ref x0), (1, .ref x1), (2, .ref x2), (3, .ref x3), (4, .ref x4), (5, .ref x5), (6, .ref x6), (7, .int x7), (8, .int x8), (9, .int x9), (12, .int x12)] → kR G M (fun q : Nat => s.heap.size ≤ q) H → va_S (fun q : Nat => s.heap.size ≤ q) s.heap H locs → W p l e room_1 s m #[Value.ref b] below meth c H locs kc ks (lw_Z below #[Value.ref b] s) (F0 m 857 ls []) := by
    intro K43 hK43 x0 x1 x2 x3 x4 x5 x6 x7 x8 x9 x12 kc ks M H locs ls h hl hR hS
    refine lv_iload hx hb dL_law_857 (lv_at hl 9 rfl) ?_
    refine lv_bipush (v := (11 : Int32)) hx hb dL_law_859 (by decide) ?_
    obtain ⟨ha, hb2⟩ := h
    refine lv_icmp_ne (tgt := 988) hx hb dL_law_861 (by decide) (fun hc => ?_) (fun hc => ?_)
    · replace h := ha hc
      exact b988 _ hK43 _ _ _ _ _ _ _ _ _ _ _ _ _ _ _ h (lv_sub hl [0, 1, 2, 3, 4, 5, 6, 7, 8] rfl) hR hS
    · replace h := hb2 hc
      refine lv_aload_n hx hb dL_law_864 rfl (lv_at hl 1 rfl) ?_
      refine lv_iload hx hb dL_law_865 (lv_at hl 10 rfl) ?_
      obtain ⟨fs102, hm101, h⟩ := h
      obtain ⟨hc103, hc104, h⟩ := h
      refine k_calli0 (va_runV (As := [.int x12]) (rest := []) ⟨hx, hb, hml, hown, hts⟩ (c_X3_drop l G _ _ _ x1 x12 h) (cwV 1 hts gL_law_X3_drop rfl rfl rfl (by decide +kernel) ⟨Nat.le_of_ble_eq_true rfl, Nat.le_of_ble_eq_true rfl⟩) (k_preV (q := (RX3, TX3, 8)) hm101 rfl hR hS hA hE) rfl rfl hl.1 rfl (lv_room (Nat.le_of_ble_eq_true rfl)) dL_law_867 ⟨hc103, hc104⟩) hR hS hA (fun r99 M100 H locs h hR hS => ?_)
      refine lv_aload hx hb dL_law_870 (lv_at hl 5 rfl) ?_
      refine lv_iconst (v := (0 : Int32)) hx hb dL_law_872 (by decide) ?_
      obtain ⟨n105, f106, hm107, hv108, h⟩ := h
      refine k_iald hx hb hK hR hm107 hv108 dL_law_873 ?_
      obtain ⟨ha, hb2⟩ := h
      refine lv_if_ne (tgt := 881) hx hb dL_law_874 (by decide) (fun hc => ?_) (fun hc => ?_)
      · replace h := ha hc
        refine lv_aload hx hb dL_law_881 (lv_at hl 5 rfl) ?_
        refine lv_iconst (v := (0 : Int32)) hx hb dL_law_883 (by decide) ?_
        obtain ⟨n109, f110, hm111, hv112, h⟩ := h
        refine k_iald hx hb hK hR hm111 hv112 dL_law_884 ?_
        refine lv_iconst (v := (1 : Int32)) hx hb dL_law_885 (by decide) ?_
        refine lv_isub hx hb dL_law_886 ?_
        exact b887 _ hK43 _ _ _ _ _ _ _ _ _ _ _ _ _ _ _ _ _ _ h (lv_sub hl [0, 1, 2, 3, 4, 5, 6, 7, 8, 10] rfl) hR hS
      · replace h := hb2 hc
        refine lv_iconst (v := (-1 : Int32)) hx hb dL_law_877 (by decide) ?_
        refine lv_goto (tgt := 887) hx hb dL_law_878 (by decide) ?_
        exact b887 _ hK43 _ _ _ _ _ _ _ _ _ _ _ _ _ _ _ _ _ _ h (lv_sub hl [0, 1, 2, 3, 4, 5, 6, 7, 8, 10] rfl) hR hS
  have b569 : ∀ (K43 : Nat → Nat → Nat → Nat → Nat → Nat → Nat → Int32 → Nat → Nat → k_M → Prop) (hK43 : ∀ (x0 : Nat) (x1 : Nat) (x2 : Nat) (x3 : Nat) (x4 : Nat) (x5 : Nat) (x6 : Nat) (x7 : Int32) (kc : Nat) (ks : Nat) (M : k_M) (H : Heap) (locs : List Loc) (ls : Array Slot), K43 x0 x1 x2 x3 x4 x5 x6 x7 kc ks M → lv_has ls 18 [(0, .ref x0), (1, .ref x1), (2, .ref x2), (3, .ref x3), (4, .ref x4), (5, .ref x5), (6, .ref x6), (7, .int x7)] → kR G M (fun q : Nat => s.heap.size ≤ q) H → va_S (fun q : Nat => s.heap.size ≤ q) s.heap H locs → W p l e room_1 s m #[Value.ref b] below meth c H locs kc ks (lw_Z below #[Value.ref b] s) (F0 m 43 ls [])), ∀ (x0 : Nat) (x1 : Nat) (x2 : Nat) (x3 : Nat) (x4 : Nat) (x5 : Nat) (x6 : Nat) (x7 : Int32) (x8 : Int32) (x10 : Int32) (s0 : Int32) (s1 : Int32) (kc : Nat) (ks : Nat) (M : k_M) (H : Heap) (locs : List Loc) (ls : Array Slot), wp_L_law_b569 G 600000 7302250 (fun r _ => r = 1) K43 x0 x1 x2 x3 x4 x5 x6 x7 x8 x10 s0 s1 kc ks M → lv_has ls 18 [(0, .ref x0), (1, .ref x1), (2, .ref x2), (3, .ref x3), (4, .ref x4), (5, .ref x5), (6, .ref x6), (7, .int x7), (8, .int x8), (10, .int x10)] → kR G M (fun q : Nat => s.heap.size ≤ q) H → va_S (fun q : Nat => s.heap.size ≤ q) s.heap H locs → W p l e room_1 s m #[Value.ref b] below meth c H locs kc ks (lw_Z below #[Value.ref b] s) (F0 m 569 ls [.int s0, .int s1]) := by
    intro K43 hK43 x0 x1 x2 x3 x4 x5 x6 x7 x8 x10 s0 s1 kc ks M H locs ls h hl hR hS
    obtain ⟨ha, hb2⟩ := h
    refine lv_icmp_eq (tgt := 574) hx hb dL_law_569 (by decide) (fun hc => ?_) (fun hc => ?_)
    · replace h := ha hc
      refine lv_aload hx hb dL_law_574 (lv_at hl 5 rfl) ?_
      refine lv_iconst (v := (0 : Int32)) hx hb dL_law_576 (by decide) ?_
      obtain ⟨n327, f328, hm329, hv330, h⟩ := h
      refine k_iald hx hb hK hR hm329 hv330 dL_law_577 ?_
      refine lv_bipush (v := (8 : Int32)) hx hb dL_law_578 (by decide) ?_
      obtain ⟨ha, hb2⟩ := h
      refine lv_icmp_ge (tgt := 988) hx hb dL_law_580 (by decide) (fun hc => ?_) (fun hc => ?_)
      · replace h := ha hc
        exact b988 _ hK43 _ _ _ _ _ _ _ _ _ _ _ _ _ _ _ h (lv_sub hl [0, 1, 2, 3, 4, 5, 6, 7, 8] rfl) hR hS
      · replace h := hb2 hc
        refine lv_bipush (v := (8 : Int32)) hx hb dL_law_583 (by decide) ?_
        refine lv_aload hx hb dL_law_585 (lv_at hl 5 rfl) ?_
        refine lv_iconst (v := (0 : Int32)) hx hb dL_law_587 (by decide) ?_
        refine lv_dup2_11 hx hb dL_law_588 rfl rfl ?_
        obtain ⟨n331, f332, hm333, hv334, h⟩ := h
        refine k_iald hx hb hK hR hm333 hv334 dL_law_589 ?_
        refine lv_dup_x2 hx hb dL_law_590 rfl rfl rfl ?_
        refine lv_iconst (v := (1 : Int32)) hx hb dL_law_591 (by decide) ?_
        refine lv_iadd hx hb dL_law_592 ?_
        obtain ⟨n335, f336, hm338, hv339, h⟩ := h
        replace h := h _ rfl
        refine k_iast hx hb hK hR hS hm338 hv339 dL_law_593 (fun H locs hR hS => ?_)
        refine lv_iadd hx hb dL_law_594 ?_
        refine lv_topi (fun y340 ey340 => ?_)
        replace h := h y340 ey340
        refine lv_istore (lv' := [(13, .int y340), (0, .ref x0), (1, .ref x1), (2, .ref x2), (3, .ref x3), (4, .ref x4), (5, .ref x5), (6, .ref x6), (7, .int x7), (8, .int x8), (10, .int x10)]) hx hb dL_law_595 hl (by decide) rfl (fun ls hl => ?_)
        refine lv_aload_n hx hb dL_law_597 rfl (lv_at hl 3 rfl) ?_
        refine lv_iload hx hb dL_law_598 (lv_at hl 0 rfl) ?_
        refine lv_iload hx hb dL_law_600 (lv_at hl 10 rfl) ?_
        obtain ⟨n341, f342, hm344, hv345, h⟩ := h
        replace h := h _ rfl
        refine k_iast hx hb hK hR hS hm344 hv345 dL_law_602 (fun H locs hR hS => ?_)
        refine lv_aload_n hx hb dL_law_603 rfl (lv_at hl 4 rfl) ?_
        refine lv_iconst (v := (2 : Int32)) hx hb dL_law_604 (by decide) ?_
        refine lv_iload hx hb dL_law_605 (lv_at hl 0 rfl) ?_
        refine lv_imul hx hb dL_law_607 ?_
        refine lv_aload_n hx hb dL_law_608 rfl (lv_at hl 4 rfl) ?_
        refine lv_iconst (v := (2 : Int32)) hx hb dL_law_609 (by decide) ?_
        refine lv_iload hx hb dL_law_610 (lv_at hl 10 rfl) ?_
        refine lv_imul hx hb dL_law_612 ?_
        obtain ⟨n346, f347, hm348, hv349, h⟩ := h
        refine k_lald hx hb hK hR hm348 hv349 dL_law_613 ?_
        obtain ⟨n350, f351, hm353, hv354, h⟩ := h
        replace h := h _ rfl
        refine k_last hx hb hK hR hS hm353 hv354 dL_law_614 (fun H locs hR hS => ?_)
        refine lv_aload_n hx hb dL_law_615 rfl (lv_at hl 4 rfl) ?_
        refine lv_iconst (v := (2 : Int32)) hx hb dL_law_616 (by decide) ?_
        refine lv_iload hx hb dL_law_617 (lv_at hl 0 rfl) ?_
        refine lv_imul hx hb dL_law_619 ?_
        refine lv_iconst (v := (1 : Int32)) hx hb dL_law_620 (by decide) ?_
        refine lv_iadd hx hb dL_law_621 ?_
        refine lv_aload_n hx hb dL_law_622 rfl (lv_at hl 4 rfl) ?_
        refine lv_iconst (v := (2 : Int32)) hx hb dL_law_623 (by decide) ?_
        refine lv_iload hx hb dL_law_624 (lv_at hl 10 rfl) ?_
        refine lv_imul hx hb dL_law_626 ?_
        refine lv_iconst (v := (1 : Int32)) hx hb dL_law_627 (by decide) ?_
        refine lv_iadd hx hb dL_law_628 ?_
        obtain ⟨n355, f356, hm357, hv358, h⟩ := h
        refine k_lald hx hb hK hR hm357 hv358 dL_law_629 ?_
        obtain ⟨n359, f360, hm362, hv363, h⟩ := h
        replace h := h _ rfl
        refine k_last hx hb hK hR hS hm362 hv363 dL_law_630 (fun H locs hR hS => ?_)
        refine lv_aload hx hb dL_law_631 (lv_at hl 5 rfl) ?_
        refine lv_iload hx hb dL_law_633 (lv_at hl 0 rfl) ?_
        refine lv_aload hx hb dL_law_635 (lv_at hl 5 rfl) ?_
        refine lv_iload hx hb dL_law_637 (lv_at hl 10 rfl) ?_
        obtain ⟨n364, f365, hm366, hv367, h⟩ := h
        refine k_lald hx hb hK hR hm366 hv367 dL_law_639 ?_
        obtain ⟨n368, f369, hm371, hv372, h⟩ := h
        replace h := h _ rfl
        refine k_last hx hb hK hR hS hm371 hv372 dL_law_640 (fun H locs hR hS => ?_)
        refine lv_goto (tgt := 988) hx hb dL_law_641 (by decide) ?_
        exact b988 _ hK43 _ _ _ _ _ _ _ _ _ _ _ _ _ _ _ h (lv_sub hl [1, 2, 3, 4, 5, 6, 7, 8, 9] rfl) hR hS
    · replace h := hb2 hc
      refine lv_iconst (v := (0 : Int32)) hx hb dL_law_572 (by decide) ?_
      obtain ⟨hwc, hws, h⟩ := h
      exact absurd (show (0 : Int32) = 1 from h) (by decide)
  have b475 : ∀ (K43 : Nat → Nat → Nat → Nat → Nat → Nat → Nat → Int32 → Nat → Nat → k_M → Prop) (hK43 : ∀ (x0 : Nat) (x1 : Nat) (x2 : Nat) (x3 : Nat) (x4 : Nat) (x5 : Nat) (x6 : Nat) (x7 : Int32) (kc : Nat) (ks : Nat) (M : k_M) (H : Heap) (locs : List Loc) (ls : Array Slot), K43 x0 x1 x2 x3 x4 x5 x6 x7 kc ks M → lv_has ls 18 [(0, .ref x0), (1, .ref x1), (2, .ref x2), (3, .ref x3), (4, .ref x4), (5, .ref x5), (6, .ref x6), (7, .int x7)] → kR G M (fun q : Nat => s.heap.size ≤ q) H → va_S (fun q : Nat => s.heap.size ≤ q) s.heap H locs → W p l e room_1 s m #[Value.ref b] below meth c H locs kc ks (lw_Z below #[Value.ref b] s) (F0 m 43 ls [])), ∀ (x0 : Nat) (x1 : Nat) (x2 : Nat) (x3 : Nat) (x4 : Nat) (x5 : Nat) (x6 : Nat) (x7 : Int32) (x8 : Int32) (kc : Nat) (ks : Nat) (M : k_M) (H : Heap) (locs : List Loc) (ls : Array Slot), wp_L_law_b475 G 600000 7302250 (fun r _ => r = 1) K43 x0 x1 x2 x3 x4 x5 x6 x7 x8 kc ks M → lv_has ls 18 [(0, .ref x0), (1, .ref x1), (2, .ref x2), (3, .ref x3), (4, .ref x4), (5, .ref x5), (6, .ref x6), (7, .int x7), (8, .int x8)] → kR G M (fun q : Nat => s.heap.size ≤ q) H → va_S (fun q : Nat => s.heap.size ≤ q) s.heap H locs → W p l e room_1 s m #[Value.ref b] below meth c H locs kc ks (lw_Z below #[Value.ref b] s) (F0 m 475 ls []) := by
    intro K43 hK43 x0 x1 x2 x3 x4 x5 x6 x7 x8 kc ks M H locs ls h hl hR hS
    refine lv_goto (tgt := 988) hx hb dL_law_475 (by decide) ?_
    exact b988 _ hK43 _ _ _ _ _ _ _ _ _ _ _ _ _ _ _ h (lv_sub hl [0, 1, 2, 3, 4, 5, 6, 7, 8] rfl) hR hS
  have b439 : ∀ (K43 : Nat → Nat → Nat → Nat → Nat → Nat → Nat → Int32 → Nat → Nat → k_M → Prop) (hK43 : ∀ (x0 : Nat) (x1 : Nat) (x2 : Nat) (x3 : Nat) (x4 : Nat) (x5 : Nat) (x6 : Nat) (x7 : Int32) (kc : Nat) (ks : Nat) (M : k_M) (H : Heap) (locs : List Loc) (ls : Array Slot), K43 x0 x1 x2 x3 x4 x5 x6 x7 kc ks M → lv_has ls 18 [(0, .ref x0), (1, .ref x1), (2, .ref x2), (3, .ref x3), (4, .ref x4), (5, .ref x5), (6, .ref x6), (7, .int x7)] → kR G M (fun q : Nat => s.heap.size ≤ q) H → va_S (fun q : Nat => s.heap.size ≤ q) s.heap H locs → W p l e room_1 s m #[Value.ref b] below meth c H locs kc ks (lw_Z below #[Value.ref b] s) (F0 m 43 ls [])), ∀ (x0 : Nat) (x1 : Nat) (x2 : Nat) (x3 : Nat) (x4 : Nat) (x5 : Nat) (x6 : Nat) (x7 : Int32) (x8 : Int32) (x10 : Int32) (x11 : Int32) (x13 : Int32) (s0 : Int32) (s1 : Int32) (kc : Nat) (ks : Nat) (M : k_M) (H : Heap) (locs : List Loc) (ls : Array Slot), wp_L_law_b439 G 600000 7302250 (fun r _ => r = 1) K43 x0 x1 x2 x3 x4 x5 x6 x7 x8 x10 x11 x13 s0 s1 kc ks M → lv_has ls 18 [(0, .ref x0), (1, .ref x1), (2, .ref x2), (3, .ref x3), (4, .ref x4), (5, .ref x5), (6, .ref x6), (7, .int x7), (8, .int x8), (10, .int x10), (11, .int x11), (13, .int x13)] → kR G M (fun q : Nat => s.heap.size ≤ q) H → va_S (fun q : Nat => s.heap.size ≤ q) s.heap H locs → W p l e room_1 s m #[Value.ref b] below meth c H locs kc ks (lw_Z below #[Value.ref b] s) (F0 m 439 ls [.int s0, .int s1]) := by
    intro K43 hK43 x0 x1 x2 x3 x4 x5 x6 x7 x8 x10 x11 x13 s0 s1 kc ks M H locs ls h hl hR hS
    obtain ⟨ha, hb2⟩ := h
    refine lv_icmp_eq (tgt := 444) hx hb dL_law_439 (by decide) (fun hc => ?_) (fun hc => ?_)
    · replace h := ha hc
      refine lv_iload hx hb dL_law_444 (lv_at hl 11 rfl) ?_
      obtain ⟨ha, hb2⟩ := h
      refine lv_if_eq (tgt := 475) hx hb dL_law_446 (by decide) (fun hc => ?_) (fun hc => ?_)
      · replace h := ha hc
        exact b475 _ hK43 _ _ _ _ _ _ _ _ _ _ _ _ _ _ _ h (lv_sub hl [0, 1, 2, 3, 4, 5, 6, 7, 8] rfl) hR hS
      · replace h := hb2 hc
        refine lv_iload hx hb dL_law_449 (lv_at hl 9 rfl) ?_
        refine lv_iload hx hb dL_law_451 (lv_at hl 10 rfl) ?_
        refine lv_aload_n hx hb dL_law_453 rfl (lv_at hl 3 rfl) ?_
        refine lv_aload hx hb dL_law_454 (lv_at hl 4 rfl) ?_
        obtain ⟨hc454, hc455, h⟩ := h
        refine k_callv0 (va_runS (As := [.int x10, .int x11, .ref x3, .ref x4]) (rest := []) ⟨hx, hb, hml, hown, hts⟩ (c_L_take l G _ _ _ x10 x11 x3 x4 h) (va_cwS 4 hts gL_law_L_take rfl rfl rfl (by decide +kernel) ⟨Nat.le_of_ble_eq_true rfl, Nat.le_of_ble_eq_true rfl⟩) (k_preS hR hS hA hE) rfl rfl hl.1 rfl (lv_room (Nat.le_of_ble_eq_true rfl)) dL_law_456 ⟨hc454, hc455⟩) hR hS hA (fun M452 H locs h hR hS => ?_)
        refine lv_aload_n hx hb dL_law_459 rfl (lv_at hl 2 rfl) ?_
        refine lv_iload hx hb dL_law_460 (lv_at hl 9 rfl) ?_
        refine lv_dup2_11 hx hb dL_law_462 rfl rfl ?_
        obtain ⟨n456, f457, hm458, hv459, h⟩ := h
        refine k_iald hx hb hK hR hm458 hv459 dL_law_463 ?_
        refine lv_aload_n hx hb dL_law_464 rfl (lv_at hl 2 rfl) ?_
        refine lv_iload hx hb dL_law_465 (lv_at hl 10 rfl) ?_
        obtain ⟨n460, f461, hm462, hv463, h⟩ := h
        refine k_iald hx hb hK hR hm462 hv463 dL_law_467 ?_
        refine lv_ior hx hb dL_law_468 ?_
        obtain ⟨n464, f465, hm467, hv468, h⟩ := h
        replace h := h _ rfl
        refine k_iast hx hb hK hR hS hm467 hv468 dL_law_469 (fun H locs hR hS => ?_)
        refine lv_aload_n hx hb dL_law_470 rfl (lv_at hl 2 rfl) ?_
        refine lv_iload hx hb dL_law_471 (lv_at hl 10 rfl) ?_
        refine lv_iconst (v := (0 : Int32)) hx hb dL_law_473 (by decide) ?_
        obtain ⟨n469, f470, hm472, hv473, h⟩ := h
        replace h := h _ rfl
        refine k_iast hx hb hK hR hS hm472 hv473 dL_law_474 (fun H locs hR hS => ?_)
        exact b475 _ hK43 _ _ _ _ _ _ _ _ _ _ _ _ _ _ _ h (lv_sub hl [0, 1, 2, 3, 4, 5, 6, 7, 8] rfl) hR hS
    · replace h := hb2 hc
      refine lv_iconst (v := (0 : Int32)) hx hb dL_law_442 (by decide) ?_
      obtain ⟨hwc, hws, h⟩ := h
      exact absurd (show (0 : Int32) = 1 from h) (by decide)
  have b387 : ∀ (K43 : Nat → Nat → Nat → Nat → Nat → Nat → Nat → Int32 → Nat → Nat → k_M → Prop) (hK43 : ∀ (x0 : Nat) (x1 : Nat) (x2 : Nat) (x3 : Nat) (x4 : Nat) (x5 : Nat) (x6 : Nat) (x7 : Int32) (kc : Nat) (ks : Nat) (M : k_M) (H : Heap) (locs : List Loc) (ls : Array Slot), K43 x0 x1 x2 x3 x4 x5 x6 x7 kc ks M → lv_has ls 18 [(0, .ref x0), (1, .ref x1), (2, .ref x2), (3, .ref x3), (4, .ref x4), (5, .ref x5), (6, .ref x6), (7, .int x7)] → kR G M (fun q : Nat => s.heap.size ≤ q) H → va_S (fun q : Nat => s.heap.size ≤ q) s.heap H locs → W p l e room_1 s m #[Value.ref b] below meth c H locs kc ks (lw_Z below #[Value.ref b] s) (F0 m 43 ls [])), ∀ (x0 : Nat) (x1 : Nat) (x2 : Nat) (x3 : Nat) (x4 : Nat) (x5 : Nat) (x6 : Nat) (x7 : Int32) (x8 : Int32) (x10 : Int32) (x11 : Int32) (s0 : Int32) (kc : Nat) (ks : Nat) (M : k_M) (H : Heap) (locs : List Loc) (ls : Array Slot), wp_L_law_b387 G 600000 7302250 (fun r _ => r = 1) K43 x0 x1 x2 x3 x4 x5 x6 x7 x8 x10 x11 s0 kc ks M → lv_has ls 18 [(0, .ref x0), (1, .ref x1), (2, .ref x2), (3, .ref x3), (4, .ref x4), (5, .ref x5), (6, .ref x6), (7, .int x7), (8, .int x8), (10, .int x10), (11, .int x11)] → kR G M (fun q : Nat => s.heap.size ≤ q) H → va_S (fun q : Nat => s.heap.size ≤ q) s.heap H locs → W p l e room_1 s m #[Value.ref b] below meth c H locs kc ks (lw_Z below #[Value.ref b] s) (F0 m 387 ls [.int s0]) := by
    intro K43 hK43 x0 x1 x2 x3 x4 x5 x6 x7 x8 x10 x11 s0 kc ks M H locs ls h hl hR hS
    refine lv_istore (lv' := [(13, .int s0), (0, .ref x0), (1, .ref x1), (2, .ref x2), (3, .ref x3), (4, .ref x4), (5, .ref x5), (6, .ref x6), (7, .int x7), (8, .int x8), (10, .int x10), (11, .int x11)]) hx hb dL_law_387 hl (by decide) rfl (fun ls hl => ?_)
    refine lv_aload_n hx hb dL_law_389 rfl (lv_at hl 3 rfl) ?_
    refine lv_iload hx hb dL_law_390 (lv_at hl 10 rfl) ?_
    obtain ⟨n423, f424, hm425, hv426, h⟩ := h
    refine k_iald hx hb hK hR hm425 hv426 dL_law_392 ?_
    refine lv_i2l hx hb dL_law_393 rfl ?_
    obtain ⟨hc430, hc431, h⟩ := h
    refine k_calli0 (va_runS (As := [.long ((f424 (x10).toNatClampNeg)).toInt64]) (rest := []) ⟨hx, hb, hml, hown, hts⟩ (c_L_bits l G _ _ _ ((f424 (x10).toNatClampNeg)).toInt64 h) (va_cwS 1 hts gL_law_L_bits rfl rfl rfl (by decide +kernel) ⟨Nat.le_of_ble_eq_true rfl, Nat.le_of_ble_eq_true rfl⟩) (k_preS hR hS hA hE) rfl rfl hl.1 rfl (lv_room (Nat.le_of_ble_eq_true rfl)) dL_law_394 ⟨hc430, hc431⟩) hR hS hA (fun r427 M428 H locs h hR hS => ?_)
    refine lv_aload_n hx hb dL_law_397 rfl (lv_at hl 3 rfl) ?_
    refine lv_iload hx hb dL_law_398 (lv_at hl 11 rfl) ?_
    obtain ⟨n432, f433, hm434, hv435, h⟩ := h
    refine k_iald hx hb hK hR hm434 hv435 dL_law_400 ?_
    refine lv_i2l hx hb dL_law_401 rfl ?_
    obtain ⟨hc439, hc440, h⟩ := h
    refine k_calli0 (va_runS (As := [.long ((f433 (x11).toNatClampNeg)).toInt64]) (rest := [.int r427]) ⟨hx, hb, hml, hown, hts⟩ (c_L_bits l G _ _ _ ((f433 (x11).toNatClampNeg)).toInt64 h) (va_cwS 1 hts gL_law_L_bits rfl rfl rfl (by decide +kernel) ⟨Nat.le_of_ble_eq_true rfl, Nat.le_of_ble_eq_true rfl⟩) (k_preS hR hS hA hE) rfl rfl hl.1 rfl (lv_room (Nat.le_of_ble_eq_true rfl)) dL_law_402 ⟨hc439, hc440⟩) hR hS hA (fun r436 M437 H locs h hR hS => ?_)
    refine lv_iadd hx hb dL_law_405 ?_
    refine lv_istore (lv' := [(14, .int (r427 + r436)), (13, .int s0), (0, .ref x0), (1, .ref x1), (2, .ref x2), (3, .ref x3), (4, .ref x4), (5, .ref x5), (6, .ref x6), (7, .int x7), (8, .int x8), (10, .int x10), (11, .int x11)]) hx hb dL_law_406 hl (by decide) rfl (fun ls hl => ?_)
    refine lv_aload_n hx hb dL_law_408 rfl (lv_at hl 3 rfl) ?_
    refine lv_iload hx hb dL_law_409 (lv_at hl 12 rfl) ?_
    refine lv_iload hx hb dL_law_411 (lv_at hl 11 rfl) ?_
    obtain ⟨fs444, hm443, h⟩ := h
    obtain ⟨hc445, hc446, h⟩ := h
    refine k_calli0 (va_runV (As := [.int x11, .int x10]) (rest := []) ⟨hx, hb, hml, hown, hts⟩ (c_X3_gather l G _ _ _ x1 x11 x10 h) (cwV 2 hts gL_law_X3_gather rfl rfl rfl (by decide +kernel) ⟨Nat.le_of_ble_eq_true rfl, Nat.le_of_ble_eq_true rfl⟩) (k_preV (q := (RX3, TX3, 8)) hm443 rfl hR hS hA hE) rfl rfl hl.1 rfl (lv_room (Nat.le_of_ble_eq_true rfl)) dL_law_413 ⟨hc445, hc446⟩) hR hS hA (fun r441 M442 H locs h hR hS => ?_)
    refine lv_aload_n hx hb dL_law_416 rfl (lv_at hl 4 rfl) ?_
    refine lv_iload hx hb dL_law_417 (lv_at hl 12 rfl) ?_
    obtain ⟨n447, f448, hm449, hv450, h⟩ := h
    refine k_iald hx hb hK hR hm449 hv450 dL_law_419 ?_
    obtain ⟨ha, hb2⟩ := h
    refine lv_if_ne (tgt := 427) hx hb dL_law_420 (by decide) (fun hc => ?_) (fun hc => ?_)
    · replace h := ha hc
      refine lv_iload hx hb dL_law_427 (lv_at hl 1 rfl) ?_
      obtain ⟨ha, hb2⟩ := h
      refine lv_if_eq (tgt := 437) hx hb dL_law_429 (by decide) (fun hc => ?_) (fun hc => ?_)
      · replace h := ha hc
        refine lv_bipush (v := (-2 : Int32)) hx hb dL_law_437 (by decide) ?_
        exact b439 _ hK43 _ _ _ _ _ _ _ _ _ _ _ _ _ _ _ _ _ _ _ _ h (lv_sub hl [2, 3, 4, 5, 6, 7, 8, 9, 10, 11, 12, 1] rfl) hR hS
      · replace h := hb2 hc
        refine lv_iload hx hb dL_law_432 (lv_at hl 0 rfl) ?_
        refine lv_goto (tgt := 439) hx hb dL_law_434 (by decide) ?_
        exact b439 _ hK43 _ _ _ _ _ _ _ _ _ _ _ _ _ _ _ _ _ _ _ _ h (lv_sub hl [2, 3, 4, 5, 6, 7, 8, 9, 10, 11, 12, 1] rfl) hR hS
    · replace h := hb2 hc
      refine lv_iconst (v := (-1 : Int32)) hx hb dL_law_423 (by decide) ?_
      refine lv_goto (tgt := 439) hx hb dL_law_424 (by decide) ?_
      exact b439 _ hK43 _ _ _ _ _ _ _ _ _ _ _ _ _ _ _ _ _ _ _ _ h (lv_sub hl [2, 3, 4, 5, 6, 7, 8, 9, 10, 11, 12, 1] rfl) hR hS
  have b386 : ∀ (K43 : Nat → Nat → Nat → Nat → Nat → Nat → Nat → Int32 → Nat → Nat → k_M → Prop) (hK43 : ∀ (x0 : Nat) (x1 : Nat) (x2 : Nat) (x3 : Nat) (x4 : Nat) (x5 : Nat) (x6 : Nat) (x7 : Int32) (kc : Nat) (ks : Nat) (M : k_M) (H : Heap) (locs : List Loc) (ls : Array Slot), K43 x0 x1 x2 x3 x4 x5 x6 x7 kc ks M → lv_has ls 18 [(0, .ref x0), (1, .ref x1), (2, .ref x2), (3, .ref x3), (4, .ref x4), (5, .ref x5), (6, .ref x6), (7, .int x7)] → kR G M (fun q : Nat => s.heap.size ≤ q) H → va_S (fun q : Nat => s.heap.size ≤ q) s.heap H locs → W p l e room_1 s m #[Value.ref b] below meth c H locs kc ks (lw_Z below #[Value.ref b] s) (F0 m 43 ls [])), ∀ (x0 : Nat) (x1 : Nat) (x2 : Nat) (x3 : Nat) (x4 : Nat) (x5 : Nat) (x6 : Nat) (x7 : Int32) (x8 : Int32) (x10 : Int32) (x11 : Int32) (kc : Nat) (ks : Nat) (M : k_M) (H : Heap) (locs : List Loc) (ls : Array Slot), wp_L_law_b386 G 600000 7302250 (fun r _ => r = 1) K43 x0 x1 x2 x3 x4 x5 x6 x7 x8 x10 x11 kc ks M → lv_has ls 18 [(0, .ref x0), (1, .ref x1), (2, .ref x2), (3, .ref x3), (4, .ref x4), (5, .ref x5), (6, .ref x6), (7, .int x7), (8, .int x8), (10, .int x10), (11, .int x11)] → kR G M (fun q : Nat => s.heap.size ≤ q) H → va_S (fun q : Nat => s.heap.size ≤ q) s.heap H locs → W p l e room_1 s m #[Value.ref b] below meth c H locs kc ks (lw_Z below #[Value.ref b] s) (F0 m 386 ls []) := by
    intro K43 hK43 x0 x1 x2 x3 x4 x5 x6 x7 x8 x10 x11 kc ks M H locs ls h hl hR hS
    refine lv_iconst (v := (0 : Int32)) hx hb dL_law_386 (by decide) ?_
    exact b387 _ hK43 _ _ _ _ _ _ _ _ _ _ _ _ _ _ _ _ _ _ h (lv_sub hl [0, 1, 2, 3, 4, 5, 6, 7, 8, 9, 10] rfl) hR hS
  have b359 : ∀ (K43 : Nat → Nat → Nat → Nat → Nat → Nat → Nat → Int32 → Nat → Nat → k_M → Prop) (hK43 : ∀ (x0 : Nat) (x1 : Nat) (x2 : Nat) (x3 : Nat) (x4 : Nat) (x5 : Nat) (x6 : Nat) (x7 : Int32) (kc : Nat) (ks : Nat) (M : k_M) (H : Heap) (locs : List Loc) (ls : Array Slot), K43 x0 x1 x2 x3 x4 x5 x6 x7 kc ks M → lv_has ls 18 [(0, .ref x0), (1, .ref x1), (2, .ref x2), (3, .ref x3), (4, .ref x4), (5, .ref x5), (6, .ref x6), (7, .int x7)] → kR G M (fun q : Nat => s.heap.size ≤ q) H → va_S (fun q : Nat => s.heap.size ≤ q) s.heap H locs → W p l e room_1 s m #[Value.ref b] below meth c H locs kc ks (lw_Z below #[Value.ref b] s) (F0 m 43 ls [])), ∀ (x0 : Nat) (x1 : Nat) (x2 : Nat) (x3 : Nat) (x4 : Nat) (x5 : Nat) (x6 : Nat) (x7 : Int32) (x8 : Int32) (kc : Nat) (ks : Nat) (M : k_M) (H : Heap) (locs : List Loc) (ls : Array Slot), wp_L_law_b359 G 600000 7302250 (fun r _ => r = 1) K43 x0 x1 x2 x3 x4 x5 x6 x7 x8 kc ks M → lv_has ls 18 [(0, .ref x0), (1, .ref x1), (2, .ref x2), (3, .ref x3), (4, .ref x4), (5, .ref x5), (6, .ref x6), (7, .int x7), (8, .int x8)] → kR G M (fun q : Nat => s.heap.size ≤ q) H → va_S (fun q : Nat => s.heap.size ≤ q) s.heap H locs → W p l e room_1 s m #[Value.ref b] below meth c H locs kc ks (lw_Z below #[Value.ref b] s) (F0 m 359 ls []) := by
    intro K43 hK43 x0 x1 x2 x3 x4 x5 x6 x7 x8 kc ks M H locs ls h hl hR hS
    refine lv_goto (tgt := 988) hx hb dL_law_359 (by decide) ?_
    exact b988 _ hK43 _ _ _ _ _ _ _ _ _ _ _ _ _ _ _ h (lv_sub hl [0, 1, 2, 3, 4, 5, 6, 7, 8] rfl) hR hS
  have L276 : ∀ (K43 : Nat → Nat → Nat → Nat → Nat → Nat → Nat → Int32 → Nat → Nat → k_M → Prop) (hK43 : ∀ (x0 : Nat) (x1 : Nat) (x2 : Nat) (x3 : Nat) (x4 : Nat) (x5 : Nat) (x6 : Nat) (x7 : Int32) (kc : Nat) (ks : Nat) (M : k_M) (H : Heap) (locs : List Loc) (ls : Array Slot), K43 x0 x1 x2 x3 x4 x5 x6 x7 kc ks M → lv_has ls 18 [(0, .ref x0), (1, .ref x1), (2, .ref x2), (3, .ref x3), (4, .ref x4), (5, .ref x5), (6, .ref x6), (7, .int x7)] → kR G M (fun q : Nat => s.heap.size ≤ q) H → va_S (fun q : Nat => s.heap.size ≤ q) s.heap H locs → W p l e room_1 s m #[Value.ref b] below meth c H locs kc ks (lw_Z below #[Value.ref b] s) (F0 m 43 ls [])) (K261 : Nat → Nat → Nat → Nat → Nat → Nat → Nat → Int32 → Int32 → Int32 → Int32 → Int32 → Int32 → Nat → Nat → k_M → Prop) (hK261 : ∀ (x0 : Nat) (x1 : Nat) (x2 : Nat) (x3 : Nat) (x4 : Nat) (x5 : Nat) (x6 : Nat) (x7 : Int32) (x8 : Int32) (x10 : Int32) (x13 : Int32) (x15 : Int32) (x16 : Int32) (kc : Nat) (ks : Nat) (M : k_M) (H : Heap) (locs : List Loc) (ls : Array Slot), K261 x0 x1 x2 x3 x4 x5 x6 x7 x8 x10 x13 x15 x16 kc ks M → lv_has ls 18 [(0, .ref x0), (1, .ref x1), (2, .ref x2), (3, .ref x3), (4, .ref x4), (5, .ref x5), (6, .ref x6), (7, .int x7), (8, .int x8), (10, .int x10), (13, .int x13), (15, .int x15), (16, .int x16)] → kR G M (fun q : Nat => s.heap.size ≤ q) H → va_S (fun q : Nat => s.heap.size ≤ q) s.heap H locs → W p l e room_1 s m #[Value.ref b] below meth c H locs kc ks (lw_Z below #[Value.ref b] s) (F0 m 261 ls [])) (n : Nat), ∀ (x0 : Nat) (x1 : Nat) (x2 : Nat) (x3 : Nat) (x4 : Nat) (x5 : Nat) (x6 : Nat) (x7 : Int32) (x8 : Int32) (x10 : Int32) (x13 : Int32) (x15 : Int32) (x16 : Int32) (x17 : Int32) (kc : Nat) (ks : Nat) (M : k_M) (H : Heap) (locs : List Loc) (ls : Array Slot), wp_L_law_L276 G 600000 7302250 (fun r _ => r = 1) K43 K261 n x0 x1 x2 x3 x4 x5 x6 x7 x8 x10 x13 x15 x16 x17 kc ks M → lv_has ls 18 [(0, .ref x0), (1, .ref x1), (2, .ref x2), (3, .ref x3), (4, .ref x4), (5, .ref x5), (6, .ref x6), (7, .int x7), (8, .int x8), (10, .int x10), (13, .int x13), (15, .int x15), (16, .int x16), (17, .int x17)] → kR G M (fun q : Nat => s.heap.size ≤ q) H → va_S (fun q : Nat => s.heap.size ≤ q) s.heap H locs → W p l e room_1 s m #[Value.ref b] below meth c H locs kc ks (lw_Z below #[Value.ref b] s) (F0 m 276 ls []) := by
    intro K43 hK43 K261 hK261 n
    induction n with
    | zero =>
      intro  x0 x1 x2 x3 x4 x5 x6 x7 x8 x10 x13 x15 x16 x17 kc ks M H locs ls h
      exact False.elim h
    | succ n ih =>
      intro  x0 x1 x2 x3 x4 x5 x6 x7 x8 x10 x13 x15 x16 x17 kc ks M H locs ls h hl hR hS
      refine lv_iload hx hb dL_law_276 (lv_at hl 12 rfl) ?_
      refine lv_iload hx hb dL_law_278 (lv_at hl 13 rfl) ?_
      refine lv_ishr hx hb dL_law_280 ?_
      refine lv_iconst (v := (1 : Int32)) hx hb dL_law_281 (by decide) ?_
      refine lv_iand hx hb dL_law_282 ?_
      obtain ⟨ha, hb2⟩ := h
      refine lv_if_ne (tgt := 292) hx hb dL_law_283 (by decide) (fun hc => ?_) (fun hc => ?_)
      · replace h := ha hc
        refine lv_iload hx hb dL_law_292 (lv_at hl 12 rfl) ?_
        refine lv_iconst (v := (1 : Int32)) hx hb dL_law_294 (by decide) ?_
        refine lv_iload hx hb dL_law_295 (lv_at hl 13 rfl) ?_
        refine lv_ishl hx hb dL_law_297 ?_
        refine lv_ixor hx hb dL_law_298 ?_
        refine lv_istore (lv' := [(16, .int (x16 ^^^ ((1 : Int32) <<< (x17 &&& 31)))), (0, .ref x0), (1, .ref x1), (2, .ref x2), (3, .ref x3), (4, .ref x4), (5, .ref x5), (6, .ref x6), (7, .int x7), (8, .int x8), (10, .int x10), (13, .int x13), (15, .int x15), (17, .int x17)]) hx hb dL_law_299 hl (by decide) rfl (fun ls hl => ?_)
        refine lv_goto (tgt := 261) hx hb dL_law_301 (by decide) ?_
        exact hK261 _ _ _ _ _ _ _ _ _ _ _ _ _ _ _ _ _ _ _ h (lv_sub hl [1, 2, 3, 4, 5, 6, 7, 8, 9, 10, 11, 12, 0] rfl) hR hS
      · replace h := hb2 hc
        refine lv_iinc (v := (x17 + (-1 : Int32))) (lv' := [(17, .int (x17 + (-1 : Int32))), (0, .ref x0), (1, .ref x1), (2, .ref x2), (3, .ref x3), (4, .ref x4), (5, .ref x5), (6, .ref x6), (7, .int x7), (8, .int x8), (10, .int x10), (13, .int x13), (15, .int x15), (16, .int x16)]) hx hb dL_law_286 hl (k := 13) rfl rfl (by decide) rfl (fun ls hl => ?_)
        refine lv_goto (tgt := 276) hx hb dL_law_289 (by decide) ?_
        exact ih _ _ _ _ _ _ _ _ _ _ _ _ _ _ _ _ _ _ _ _ h (lv_sub hl [1, 2, 3, 4, 5, 6, 7, 8, 9, 10, 11, 12, 13, 0] rfl) hR hS
  have L261 : ∀ (K43 : Nat → Nat → Nat → Nat → Nat → Nat → Nat → Int32 → Nat → Nat → k_M → Prop) (hK43 : ∀ (x0 : Nat) (x1 : Nat) (x2 : Nat) (x3 : Nat) (x4 : Nat) (x5 : Nat) (x6 : Nat) (x7 : Int32) (kc : Nat) (ks : Nat) (M : k_M) (H : Heap) (locs : List Loc) (ls : Array Slot), K43 x0 x1 x2 x3 x4 x5 x6 x7 kc ks M → lv_has ls 18 [(0, .ref x0), (1, .ref x1), (2, .ref x2), (3, .ref x3), (4, .ref x4), (5, .ref x5), (6, .ref x6), (7, .int x7)] → kR G M (fun q : Nat => s.heap.size ≤ q) H → va_S (fun q : Nat => s.heap.size ≤ q) s.heap H locs → W p l e room_1 s m #[Value.ref b] below meth c H locs kc ks (lw_Z below #[Value.ref b] s) (F0 m 43 ls [])) (n : Nat), ∀ (x0 : Nat) (x1 : Nat) (x2 : Nat) (x3 : Nat) (x4 : Nat) (x5 : Nat) (x6 : Nat) (x7 : Int32) (x8 : Int32) (x10 : Int32) (x13 : Int32) (x15 : Int32) (x16 : Int32) (kc : Nat) (ks : Nat) (M : k_M) (H : Heap) (locs : List Loc) (ls : Array Slot), wp_L_law_L261 G 600000 7302250 (fun r _ => r = 1) K43 n x0 x1 x2 x3 x4 x5 x6 x7 x8 x10 x13 x15 x16 kc ks M → lv_has ls 18 [(0, .ref x0), (1, .ref x1), (2, .ref x2), (3, .ref x3), (4, .ref x4), (5, .ref x5), (6, .ref x6), (7, .int x7), (8, .int x8), (10, .int x10), (13, .int x13), (15, .int x15), (16, .int x16)] → kR G M (fun q : Nat => s.heap.size ≤ q) H → va_S (fun q : Nat => s.heap.size ≤ q) s.heap H locs → W p l e room_1 s m #[Value.ref b] below meth c H locs kc ks (lw_Z below #[Value.ref b] s) (F0 m 261 ls []) := by
    intro K43 hK43 n
    induction n with
    | zero =>
      intro  x0 x1 x2 x3 x4 x5 x6 x7 x8 x10 x13 x15 x16 kc ks M H locs ls h
      exact False.elim h
    | succ n ih =>
      intro  x0 x1 x2 x3 x4 x5 x6 x7 x8 x10 x13 x15 x16 kc ks M H locs ls h hl hR hS
      refine lv_iload hx hb dL_law_261 (lv_at hl 12 rfl) ?_
      refine lv_i2l hx hb dL_law_263 rfl ?_
      obtain ⟨hc498, hc499, h⟩ := h
      refine k_calli0 (va_runS (As := [.long (x16).toInt64]) (rest := []) ⟨hx, hb, hml, hown, hts⟩ (c_L_bits l G _ _ _ (x16).toInt64 h) (va_cwS 1 hts gL_law_L_bits rfl rfl rfl (by decide +kernel) ⟨Nat.le_of_ble_eq_true rfl, Nat.le_of_ble_eq_true rfl⟩) (k_preS hR hS hA hE) rfl rfl hl.1 rfl (lv_room (Nat.le_of_ble_eq_true rfl)) dL_law_264 ⟨hc498, hc499⟩) hR hS hA (fun r495 M496 H locs h hR hS => ?_)
      refine lv_iload hx hb dL_law_267 (lv_at hl 11 rfl) ?_
      obtain ⟨ha, hb2⟩ := h
      refine lv_icmp_le (tgt := 304) hx hb dL_law_269 (by decide) (fun hc => ?_) (fun hc => ?_)
      · replace h := ha hc
        refine lv_aload_n hx hb dL_law_304 rfl (lv_at hl 2 rfl) ?_
        refine lv_iload hx hb dL_law_305 (lv_at hl 10 rfl) ?_
        refine lv_aload_n hx hb dL_law_307 rfl (lv_at hl 2 rfl) ?_
        refine lv_iload hx hb dL_law_308 (lv_at hl 9 rfl) ?_
        obtain ⟨n500, f501, hm502, hv503, h⟩ := h
        refine k_iald hx hb hK hR hm502 hv503 dL_law_310 ?_
        refine lv_iload hx hb dL_law_311 (lv_at hl 12 rfl) ?_
        refine lv_ixor hx hb dL_law_313 ?_
        obtain ⟨n504, f505, hm507, hv508, h⟩ := h
        replace h := h _ rfl
        refine k_iast hx hb hK hR hS hm507 hv508 dL_law_314 (fun H locs hR hS => ?_)
        refine lv_aload_n hx hb dL_law_315 rfl (lv_at hl 2 rfl) ?_
        refine lv_iload hx hb dL_law_316 (lv_at hl 9 rfl) ?_
        refine lv_iload hx hb dL_law_318 (lv_at hl 12 rfl) ?_
        obtain ⟨n509, f510, hm512, hv513, h⟩ := h
        replace h := h _ rfl
        refine k_iast hx hb hK hR hS hm512 hv513 dL_law_320 (fun H locs hR hS => ?_)
        refine lv_aload_n hx hb dL_law_321 rfl (lv_at hl 3 rfl) ?_
        refine lv_iconst (v := (2 : Int32)) hx hb dL_law_322 (by decide) ?_
        refine lv_iload hx hb dL_law_323 (lv_at hl 10 rfl) ?_
        refine lv_imul hx hb dL_law_325 ?_
        refine lv_aload_n hx hb dL_law_326 rfl (lv_at hl 3 rfl) ?_
        refine lv_iconst (v := (2 : Int32)) hx hb dL_law_327 (by decide) ?_
        refine lv_iload hx hb dL_law_328 (lv_at hl 9 rfl) ?_
        refine lv_imul hx hb dL_law_330 ?_
        obtain ⟨n514, f515, hm516, hv517, h⟩ := h
        refine k_lald hx hb hK hR hm516 hv517 dL_law_331 ?_
        obtain ⟨n518, f519, hm521, hv522, h⟩ := h
        replace h := h _ rfl
        refine k_last hx hb hK hR hS hm521 hv522 dL_law_332 (fun H locs hR hS => ?_)
        refine lv_aload_n hx hb dL_law_333 rfl (lv_at hl 3 rfl) ?_
        refine lv_iconst (v := (2 : Int32)) hx hb dL_law_334 (by decide) ?_
        refine lv_iload hx hb dL_law_335 (lv_at hl 10 rfl) ?_
        refine lv_imul hx hb dL_law_337 ?_
        refine lv_iconst (v := (1 : Int32)) hx hb dL_law_338 (by decide) ?_
        refine lv_iadd hx hb dL_law_339 ?_
        refine lv_aload_n hx hb dL_law_340 rfl (lv_at hl 3 rfl) ?_
        refine lv_iconst (v := (2 : Int32)) hx hb dL_law_341 (by decide) ?_
        refine lv_iload hx hb dL_law_342 (lv_at hl 9 rfl) ?_
        refine lv_imul hx hb dL_law_344 ?_
        refine lv_iconst (v := (1 : Int32)) hx hb dL_law_345 (by decide) ?_
        refine lv_iadd hx hb dL_law_346 ?_
        obtain ⟨n523, f524, hm525, hv526, h⟩ := h
        refine k_lald hx hb hK hR hm525 hv526 dL_law_347 ?_
        obtain ⟨n527, f528, hm530, hv531, h⟩ := h
        replace h := h _ rfl
        refine k_last hx hb hK hR hS hm530 hv531 dL_law_348 (fun H locs hR hS => ?_)
        refine lv_aload hx hb dL_law_349 (lv_at hl 4 rfl) ?_
        refine lv_iload hx hb dL_law_351 (lv_at hl 10 rfl) ?_
        refine lv_aload hx hb dL_law_353 (lv_at hl 4 rfl) ?_
        refine lv_iload hx hb dL_law_355 (lv_at hl 9 rfl) ?_
        obtain ⟨n532, f533, hm534, hv535, h⟩ := h
        refine k_lald hx hb hK hR hm534 hv535 dL_law_357 ?_
        obtain ⟨n536, f537, hm539, hv540, h⟩ := h
        replace h := h _ rfl
        refine k_last hx hb hK hR hS hm539 hv540 dL_law_358 (fun H locs hR hS => ?_)
        exact b359 _ hK43 _ _ _ _ _ _ _ _ _ _ _ _ _ _ _ h (lv_sub hl [0, 1, 2, 3, 4, 5, 6, 7, 8] rfl) hR hS
      · replace h := hb2 hc
        refine lv_bipush (v := (15 : Int32)) hx hb dL_law_272 (by decide) ?_
        refine lv_istore (lv' := [(17, .int (15 : Int32)), (0, .ref x0), (1, .ref x1), (2, .ref x2), (3, .ref x3), (4, .ref x4), (5, .ref x5), (6, .ref x6), (7, .int x7), (8, .int x8), (10, .int x10), (13, .int x13), (15, .int x15), (16, .int x16)]) hx hb dL_law_274 hl (by decide) rfl (fun ls hl => ?_)
        obtain ⟨k541, h⟩ := h
        exact L276 _ hK43 _ ih k541 _ _ _ _ _ _ _ _ _ _ _ _ _ _ _ _ _ _ _ _ h (lv_sub hl [1, 2, 3, 4, 5, 6, 7, 8, 9, 10, 11, 12, 13, 0] rfl) hR hS
  have b231 : ∀ (K43 : Nat → Nat → Nat → Nat → Nat → Nat → Nat → Int32 → Nat → Nat → k_M → Prop) (hK43 : ∀ (x0 : Nat) (x1 : Nat) (x2 : Nat) (x3 : Nat) (x4 : Nat) (x5 : Nat) (x6 : Nat) (x7 : Int32) (kc : Nat) (ks : Nat) (M : k_M) (H : Heap) (locs : List Loc) (ls : Array Slot), K43 x0 x1 x2 x3 x4 x5 x6 x7 kc ks M → lv_has ls 18 [(0, .ref x0), (1, .ref x1), (2, .ref x2), (3, .ref x3), (4, .ref x4), (5, .ref x5), (6, .ref x6), (7, .int x7)] → kR G M (fun q : Nat => s.heap.size ≤ q) H → va_S (fun q : Nat => s.heap.size ≤ q) s.heap H locs → W p l e room_1 s m #[Value.ref b] below meth c H locs kc ks (lw_Z below #[Value.ref b] s) (F0 m 43 ls [])), ∀ (x0 : Nat) (x1 : Nat) (x2 : Nat) (x3 : Nat) (x4 : Nat) (x5 : Nat) (x6 : Nat) (x7 : Int32) (x8 : Int32) (x10 : Int32) (x13 : Int32) (x14 : Int32) (s0 : Int32) (s1 : Int32) (kc : Nat) (ks : Nat) (M : k_M) (H : Heap) (locs : List Loc) (ls : Array Slot), wp_L_law_b231 G 600000 7302250 (fun r _ => r = 1) K43 x0 x1 x2 x3 x4 x5 x6 x7 x8 x10 x13 x14 s0 s1 kc ks M → lv_has ls 18 [(0, .ref x0), (1, .ref x1), (2, .ref x2), (3, .ref x3), (4, .ref x4), (5, .ref x5), (6, .ref x6), (7, .int x7), (8, .int x8), (10, .int x10), (13, .int x13), (14, .int x14)] → kR G M (fun q : Nat => s.heap.size ≤ q) H → va_S (fun q : Nat => s.heap.size ≤ q) s.heap H locs → W p l e room_1 s m #[Value.ref b] below meth c H locs kc ks (lw_Z below #[Value.ref b] s) (F0 m 231 ls [.int s0, .int s1]) := by
    intro K43 hK43 x0 x1 x2 x3 x4 x5 x6 x7 x8 x10 x13 x14 s0 s1 kc ks M H locs ls h hl hR hS
    obtain ⟨ha, hb2⟩ := h
    refine lv_icmp_eq (tgt := 236) hx hb dL_law_231 (by decide) (fun hc => ?_) (fun hc => ?_)
    · replace h := ha hc
      refine lv_iload hx hb dL_law_236 (lv_at hl 11 rfl) ?_
      obtain ⟨ha, hb2⟩ := h
      refine lv_if_eq (tgt := 359) hx hb dL_law_238 (by decide) (fun hc => ?_) (fun hc => ?_)
      · replace h := ha hc
        exact b359 _ hK43 _ _ _ _ _ _ _ _ _ _ _ _ _ _ _ h (lv_sub hl [0, 1, 2, 3, 4, 5, 6, 7, 8] rfl) hR hS
      · replace h := hb2 hc
        refine lv_aload_n hx hb dL_law_241 rfl (lv_at hl 2 rfl) ?_
        refine lv_iload hx hb dL_law_242 (lv_at hl 9 rfl) ?_
        obtain ⟨n481, f482, hm483, hv484, h⟩ := h
        refine k_iald hx hb hK hR hm483 hv484 dL_law_244 ?_
        refine lv_i2l hx hb dL_law_245 rfl ?_
        obtain ⟨hc488, hc489, h⟩ := h
        refine k_calli0 (va_runS (As := [.long ((f482 (x10).toNatClampNeg)).toInt64]) (rest := []) ⟨hx, hb, hml, hown, hts⟩ (c_L_bits l G _ _ _ ((f482 (x10).toNatClampNeg)).toInt64 h) (va_cwS 1 hts gL_law_L_bits rfl rfl rfl (by decide +kernel) ⟨Nat.le_of_ble_eq_true rfl, Nat.le_of_ble_eq_true rfl⟩) (k_preS hR hS hA hE) rfl rfl hl.1 rfl (lv_room (Nat.le_of_ble_eq_true rfl)) dL_law_246 ⟨hc488, hc489⟩) hR hS hA (fun r485 M486 H locs h hR hS => ?_)
        refine lv_iconst (v := (1 : Int32)) hx hb dL_law_249 (by decide) ?_
        refine lv_iadd hx hb dL_law_250 ?_
        refine lv_iconst (v := (2 : Int32)) hx hb dL_law_251 (by decide) ?_
        refine lv_idiv hx hb dL_law_252 (by decide) ?_
        refine lv_istore (lv' := [(15, .int ((r485 + (1 : Int32)) / (2 : Int32))), (0, .ref x0), (1, .ref x1), (2, .ref x2), (3, .ref x3), (4, .ref x4), (5, .ref x5), (6, .ref x6), (7, .int x7), (8, .int x8), (10, .int x10), (13, .int x13), (14, .int x14)]) hx hb dL_law_253 hl (by decide) rfl (fun ls hl => ?_)
        refine lv_aload_n hx hb dL_law_255 rfl (lv_at hl 3 rfl) ?_
        refine lv_iload hx hb dL_law_256 (lv_at hl 10 rfl) ?_
        obtain ⟨n490, f491, hm492, hv493, h⟩ := h
        refine k_iald hx hb hK hR hm492 hv493 dL_law_258 ?_
        refine lv_istore (lv' := [(16, .int (f491 (x10).toNatClampNeg)), (15, .int ((r485 + (1 : Int32)) / (2 : Int32))), (0, .ref x0), (1, .ref x1), (2, .ref x2), (3, .ref x3), (4, .ref x4), (5, .ref x5), (6, .ref x6), (7, .int x7), (8, .int x8), (10, .int x10), (13, .int x13), (14, .int x14)]) hx hb dL_law_259 hl (by decide) rfl (fun ls hl => ?_)
        obtain ⟨k494, h⟩ := h
        exact L261 _ hK43 k494 _ _ _ _ _ _ _ _ _ _ _ _ _ _ _ _ _ _ _ h (lv_sub hl [2, 3, 4, 5, 6, 7, 8, 9, 10, 11, 12, 1, 0] rfl) hR hS
    · replace h := hb2 hc
      refine lv_iconst (v := (0 : Int32)) hx hb dL_law_234 (by decide) ?_
      obtain ⟨hwc, hws, h⟩ := h
      exact absurd (show (0 : Int32) = 1 from h) (by decide)
  have b199 : ∀ (K43 : Nat → Nat → Nat → Nat → Nat → Nat → Nat → Int32 → Nat → Nat → k_M → Prop) (hK43 : ∀ (x0 : Nat) (x1 : Nat) (x2 : Nat) (x3 : Nat) (x4 : Nat) (x5 : Nat) (x6 : Nat) (x7 : Int32) (kc : Nat) (ks : Nat) (M : k_M) (H : Heap) (locs : List Loc) (ls : Array Slot), K43 x0 x1 x2 x3 x4 x5 x6 x7 kc ks M → lv_has ls 18 [(0, .ref x0), (1, .ref x1), (2, .ref x2), (3, .ref x3), (4, .ref x4), (5, .ref x5), (6, .ref x6), (7, .int x7)] → kR G M (fun q : Nat => s.heap.size ≤ q) H → va_S (fun q : Nat => s.heap.size ≤ q) s.heap H locs → W p l e room_1 s m #[Value.ref b] below meth c H locs kc ks (lw_Z below #[Value.ref b] s) (F0 m 43 ls [])), ∀ (x0 : Nat) (x1 : Nat) (x2 : Nat) (x3 : Nat) (x4 : Nat) (x5 : Nat) (x6 : Nat) (x7 : Int32) (x8 : Int32) (x10 : Int32) (x13 : Int32) (s0 : Int32) (kc : Nat) (ks : Nat) (M : k_M) (H : Heap) (locs : List Loc) (ls : Array Slot), wp_L_law_b199 G 600000 7302250 (fun r _ => r = 1) K43 x0 x1 x2 x3 x4 x5 x6 x7 x8 x10 x13 s0 kc ks M → lv_has ls 18 [(0, .ref x0), (1, .ref x1), (2, .ref x2), (3, .ref x3), (4, .ref x4), (5, .ref x5), (6, .ref x6), (7, .int x7), (8, .int x8), (10, .int x10), (13, .int x13)] → kR G M (fun q : Nat => s.heap.size ≤ q) H → va_S (fun q : Nat => s.heap.size ≤ q) s.heap H locs → W p l e room_1 s m #[Value.ref b] below meth c H locs kc ks (lw_Z below #[Value.ref b] s) (F0 m 199 ls [.int s0]) := by
    intro K43 hK43 x0 x1 x2 x3 x4 x5 x6 x7 x8 x10 x13 s0 kc ks M H locs ls h hl hR hS
    refine lv_istore (lv' := [(14, .int s0), (0, .ref x0), (1, .ref x1), (2, .ref x2), (3, .ref x3), (4, .ref x4), (5, .ref x5), (6, .ref x6), (7, .int x7), (8, .int x8), (10, .int x10), (13, .int x13)]) hx hb dL_law_199 hl (by decide) rfl (fun ls hl => ?_)
    refine lv_aload_n hx hb dL_law_201 rfl (lv_at hl 2 rfl) ?_
    refine lv_iload hx hb dL_law_202 (lv_at hl 10 rfl) ?_
    obtain ⟨fs478, hm477, h⟩ := h
    obtain ⟨hc479, hc480, h⟩ := h
    refine k_calli0 (va_runV (As := [.int x10]) (rest := []) ⟨hx, hb, hml, hown, hts⟩ (c_X3_fork l G _ _ _ x1 x10 h) (cwV 1 hts gL_law_X3_fork rfl rfl rfl (by decide +kernel) ⟨Nat.le_of_ble_eq_true rfl, Nat.le_of_ble_eq_true rfl⟩) (k_preV (q := (RX3, TX3, 8)) hm477 rfl hR hS hA hE) rfl rfl hl.1 rfl (lv_room (Nat.le_of_ble_eq_true rfl)) dL_law_204 ⟨hc479, hc480⟩) hR hS hA (fun r475 M476 H locs h hR hS => ?_)
    refine lv_iload hx hb dL_law_207 (lv_at hl 11 rfl) ?_
    refine lv_bipush (v := (8 : Int32)) hx hb dL_law_209 (by decide) ?_
    obtain ⟨ha, hb2⟩ := h
    refine lv_icmp_ne (tgt := 219) hx hb dL_law_211 (by decide) (fun hc => ?_) (fun hc => ?_)
    · replace h := ha hc
      refine lv_iload hx hb dL_law_219 (lv_at hl 0 rfl) ?_
      obtain ⟨ha, hb2⟩ := h
      refine lv_if_eq (tgt := 229) hx hb dL_law_221 (by decide) (fun hc => ?_) (fun hc => ?_)
      · replace h := ha hc
        refine lv_bipush (v := (-5 : Int32)) hx hb dL_law_229 (by decide) ?_
        exact b231 _ hK43 _ _ _ _ _ _ _ _ _ _ _ _ _ _ _ _ _ _ _ _ h (lv_sub hl [1, 2, 3, 4, 5, 6, 7, 8, 9, 10, 11, 0] rfl) hR hS
      · replace h := hb2 hc
        refine lv_iload hx hb dL_law_224 (lv_at hl 11 rfl) ?_
        refine lv_goto (tgt := 231) hx hb dL_law_226 (by decide) ?_
        exact b231 _ hK43 _ _ _ _ _ _ _ _ _ _ _ _ _ _ _ _ _ _ _ _ h (lv_sub hl [1, 2, 3, 4, 5, 6, 7, 8, 9, 10, 11, 0] rfl) hR hS
    · replace h := hb2 hc
      refine lv_bipush (v := (-4 : Int32)) hx hb dL_law_214 (by decide) ?_
      refine lv_goto (tgt := 231) hx hb dL_law_216 (by decide) ?_
      exact b231 _ hK43 _ _ _ _ _ _ _ _ _ _ _ _ _ _ _ _ _ _ _ _ h (lv_sub hl [1, 2, 3, 4, 5, 6, 7, 8, 9, 10, 11, 0] rfl) hR hS
  have b198 : ∀ (K43 : Nat → Nat → Nat → Nat → Nat → Nat → Nat → Int32 → Nat → Nat → k_M → Prop) (hK43 : ∀ (x0 : Nat) (x1 : Nat) (x2 : Nat) (x3 : Nat) (x4 : Nat) (x5 : Nat) (x6 : Nat) (x7 : Int32) (kc : Nat) (ks : Nat) (M : k_M) (H : Heap) (locs : List Loc) (ls : Array Slot), K43 x0 x1 x2 x3 x4 x5 x6 x7 kc ks M → lv_has ls 18 [(0, .ref x0), (1, .ref x1), (2, .ref x2), (3, .ref x3), (4, .ref x4), (5, .ref x5), (6, .ref x6), (7, .int x7)] → kR G M (fun q : Nat => s.heap.size ≤ q) H → va_S (fun q : Nat => s.heap.size ≤ q) s.heap H locs → W p l e room_1 s m #[Value.ref b] below meth c H locs kc ks (lw_Z below #[Value.ref b] s) (F0 m 43 ls [])), ∀ (x0 : Nat) (x1 : Nat) (x2 : Nat) (x3 : Nat) (x4 : Nat) (x5 : Nat) (x6 : Nat) (x7 : Int32) (x8 : Int32) (x10 : Int32) (x13 : Int32) (kc : Nat) (ks : Nat) (M : k_M) (H : Heap) (locs : List Loc) (ls : Array Slot), wp_L_law_b198 G 600000 7302250 (fun r _ => r = 1) K43 x0 x1 x2 x3 x4 x5 x6 x7 x8 x10 x13 kc ks M → lv_has ls 18 [(0, .ref x0), (1, .ref x1), (2, .ref x2), (3, .ref x3), (4, .ref x4), (5, .ref x5), (6, .ref x6), (7, .int x7), (8, .int x8), (10, .int x10), (13, .int x13)] → kR G M (fun q : Nat => s.heap.size ≤ q) H → va_S (fun q : Nat => s.heap.size ≤ q) s.heap H locs → W p l e room_1 s m #[Value.ref b] below meth c H locs kc ks (lw_Z below #[Value.ref b] s) (F0 m 198 ls []) := by
    intro K43 hK43 x0 x1 x2 x3 x4 x5 x6 x7 x8 x10 x13 kc ks M H locs ls h hl hR hS
    refine lv_iconst (v := (0 : Int32)) hx hb dL_law_198 (by decide) ?_
    exact b199 _ hK43 _ _ _ _ _ _ _ _ _ _ _ _ _ _ _ _ _ _ h (lv_sub hl [0, 1, 2, 3, 4, 5, 6, 7, 8, 9, 10] rfl) hR hS
  have b175 : ∀ (K43 : Nat → Nat → Nat → Nat → Nat → Nat → Nat → Int32 → Nat → Nat → k_M → Prop) (hK43 : ∀ (x0 : Nat) (x1 : Nat) (x2 : Nat) (x3 : Nat) (x4 : Nat) (x5 : Nat) (x6 : Nat) (x7 : Int32) (kc : Nat) (ks : Nat) (M : k_M) (H : Heap) (locs : List Loc) (ls : Array Slot), K43 x0 x1 x2 x3 x4 x5 x6 x7 kc ks M → lv_has ls 18 [(0, .ref x0), (1, .ref x1), (2, .ref x2), (3, .ref x3), (4, .ref x4), (5, .ref x5), (6, .ref x6), (7, .int x7)] → kR G M (fun q : Nat => s.heap.size ≤ q) H → va_S (fun q : Nat => s.heap.size ≤ q) s.heap H locs → W p l e room_1 s m #[Value.ref b] below meth c H locs kc ks (lw_Z below #[Value.ref b] s) (F0 m 43 ls [])), ∀ (x0 : Nat) (x1 : Nat) (x2 : Nat) (x3 : Nat) (x4 : Nat) (x5 : Nat) (x6 : Nat) (x7 : Int32) (x8 : Int32) (x10 : Int32) (x13 : Int32) (kc : Nat) (ks : Nat) (M : k_M) (H : Heap) (locs : List Loc) (ls : Array Slot), wp_L_law_b175 G 600000 7302250 (fun r _ => r = 1) K43 x0 x1 x2 x3 x4 x5 x6 x7 x8 x10 x13 kc ks M → lv_has ls 18 [(0, .ref x0), (1, .ref x1), (2, .ref x2), (3, .ref x3), (4, .ref x4), (5, .ref x5), (6, .ref x6), (7, .int x7), (8, .int x8), (10, .int x10), (13, .int x13)] → kR G M (fun q : Nat => s.heap.size ≤ q) H → va_S (fun q : Nat => s.heap.size ≤ q) s.heap H locs → W p l e room_1 s m #[Value.ref b] below meth c H locs kc ks (lw_Z below #[Value.ref b] s) (F0 m 175 ls []) := by
    intro K43 hK43 x0 x1 x2 x3 x4 x5 x6 x7 x8 x10 x13 kc ks M H locs ls h hl hR hS
    refine lv_iload hx hb dL_law_175 (lv_at hl 10 rfl) ?_
    refine lv_bipush (v := (8 : Int32)) hx hb dL_law_177 (by decide) ?_
    obtain ⟨ha, hb2⟩ := h
    refine lv_icmp_ge (tgt := 198) hx hb dL_law_179 (by decide) (fun hc => ?_) (fun hc => ?_)
    · replace h := ha hc
      exact b198 _ hK43 _ _ _ _ _ _ _ _ _ _ _ _ _ _ _ _ _ h (lv_sub hl [0, 1, 2, 3, 4, 5, 6, 7, 8, 9, 10] rfl) hR hS
    · replace h := hb2 hc
      refine lv_aload_n hx hb dL_law_182 rfl (lv_at hl 2 rfl) ?_
      refine lv_iload hx hb dL_law_183 (lv_at hl 9 rfl) ?_
      obtain ⟨n542, f543, hm544, hv545, h⟩ := h
      refine k_iald hx hb hK hR hm544 hv545 dL_law_185 ?_
      refine lv_i2l hx hb dL_law_186 rfl ?_
      obtain ⟨hc549, hc550, h⟩ := h
      refine k_calli0 (va_runS (As := [.long ((f543 (x10).toNatClampNeg)).toInt64]) (rest := []) ⟨hx, hb, hml, hown, hts⟩ (c_L_bits l G _ _ _ ((f543 (x10).toNatClampNeg)).toInt64 h) (va_cwS 1 hts gL_law_L_bits rfl rfl rfl (by decide +kernel) ⟨Nat.le_of_ble_eq_true rfl, Nat.le_of_ble_eq_true rfl⟩) (k_preS hR hS hA hE) rfl rfl hl.1 rfl (lv_room (Nat.le_of_ble_eq_true rfl)) dL_law_187 ⟨hc549, hc550⟩) hR hS hA (fun r546 M547 H locs h hR hS => ?_)
      refine lv_iconst (v := (1 : Int32)) hx hb dL_law_190 (by decide) ?_
      obtain ⟨ha, hb2⟩ := h
      refine lv_icmp_le (tgt := 198) hx hb dL_law_191 (by decide) (fun hc => ?_) (fun hc => ?_)
      · replace h := ha hc
        exact b198 _ hK43 _ _ _ _ _ _ _ _ _ _ _ _ _ _ _ _ _ h (lv_sub hl [0, 1, 2, 3, 4, 5, 6, 7, 8, 9, 10] rfl) hR hS
      · replace h := hb2 hc
        refine lv_iconst (v := (1 : Int32)) hx hb dL_law_194 (by decide) ?_
        refine lv_goto (tgt := 199) hx hb dL_law_195 (by decide) ?_
        exact b199 _ hK43 _ _ _ _ _ _ _ _ _ _ _ _ _ _ _ _ _ _ h (lv_sub hl [0, 1, 2, 3, 4, 5, 6, 7, 8, 9, 10] rfl) hR hS
  have L155 : ∀ (K43 : Nat → Nat → Nat → Nat → Nat → Nat → Nat → Int32 → Nat → Nat → k_M → Prop) (hK43 : ∀ (x0 : Nat) (x1 : Nat) (x2 : Nat) (x3 : Nat) (x4 : Nat) (x5 : Nat) (x6 : Nat) (x7 : Int32) (kc : Nat) (ks : Nat) (M : k_M) (H : Heap) (locs : List Loc) (ls : Array Slot), K43 x0 x1 x2 x3 x4 x5 x6 x7 kc ks M → lv_has ls 18 [(0, .ref x0), (1, .ref x1), (2, .ref x2), (3, .ref x3), (4, .ref x4), (5, .ref x5), (6, .ref x6), (7, .int x7)] → kR G M (fun q : Nat => s.heap.size ≤ q) H → va_S (fun q : Nat => s.heap.size ≤ q) s.heap H locs → W p l e room_1 s m #[Value.ref b] below meth c H locs kc ks (lw_Z below #[Value.ref b] s) (F0 m 43 ls [])) (n : Nat), ∀ (x0 : Nat) (x1 : Nat) (x2 : Nat) (x3 : Nat) (x4 : Nat) (x5 : Nat) (x6 : Nat) (x7 : Int32) (x8 : Int32) (x10 : Int32) (x13 : Int32) (kc : Nat) (ks : Nat) (M : k_M) (H : Heap) (locs : List Loc) (ls : Array Slot), wp_L_law_L155 G 600000 7302250 (fun r _ => r = 1) K43 n x0 x1 x2 x3 x4 x5 x6 x7 x8 x10 x13 kc ks M → lv_has ls 18 [(0, .ref x0), (1, .ref x1), (2, .ref x2), (3, .ref x3), (4, .ref x4), (5, .ref x5), (6, .ref x6), (7, .int x7), (8, .int x8), (10, .int x10), (13, .int x13)] → kR G M (fun q : Nat => s.heap.size ≤ q) H → va_S (fun q : Nat => s.heap.size ≤ q) s.heap H locs → W p l e room_1 s m #[Value.ref b] below meth c H locs kc ks (lw_Z below #[Value.ref b] s) (F0 m 155 ls []) := by
    intro K43 hK43 n
    induction n with
    | zero =>
      intro  x0 x1 x2 x3 x4 x5 x6 x7 x8 x10 x13 kc ks M H locs ls h
      exact False.elim h
    | succ n ih =>
      intro  x0 x1 x2 x3 x4 x5 x6 x7 x8 x10 x13 kc ks M H locs ls h hl hR hS
      refine lv_iload hx hb dL_law_155 (lv_at hl 10 rfl) ?_
      refine lv_bipush (v := (8 : Int32)) hx hb dL_law_157 (by decide) ?_
      obtain ⟨ha, hb2⟩ := h
      refine lv_icmp_ge (tgt := 175) hx hb dL_law_159 (by decide) (fun hc => ?_) (fun hc => ?_)
      · replace h := ha hc
        exact b175 _ hK43 _ _ _ _ _ _ _ _ _ _ _ _ _ _ _ _ _ h (lv_sub hl [0, 1, 2, 3, 4, 5, 6, 7, 8, 9, 10] rfl) hR hS
      · replace h := hb2 hc
        refine lv_aload_n hx hb dL_law_162 rfl (lv_at hl 2 rfl) ?_
        refine lv_iload hx hb dL_law_163 (lv_at hl 10 rfl) ?_
        obtain ⟨n551, f552, hm553, hv554, h⟩ := h
        refine k_iald hx hb hK hR hm553 hv554 dL_law_165 ?_
        obtain ⟨ha, hb2⟩ := h
        refine lv_if_eq (tgt := 175) hx hb dL_law_166 (by decide) (fun hc => ?_) (fun hc => ?_)
        · replace h := ha hc
          exact b175 _ hK43 _ _ _ _ _ _ _ _ _ _ _ _ _ _ _ _ _ h (lv_sub hl [0, 1, 2, 3, 4, 5, 6, 7, 8, 9, 10] rfl) hR hS
        · replace h := hb2 hc
          refine lv_iinc (v := (x13 + (1 : Int32))) (lv' := [(13, .int (x13 + (1 : Int32))), (0, .ref x0), (1, .ref x1), (2, .ref x2), (3, .ref x3), (4, .ref x4), (5, .ref x5), (6, .ref x6), (7, .int x7), (8, .int x8), (10, .int x10)]) hx hb dL_law_169 hl (k := 10) rfl rfl (by decide) rfl (fun ls hl => ?_)
          refine lv_goto (tgt := 155) hx hb dL_law_172 (by decide) ?_
          exact ih _ _ _ _ _ _ _ _ _ _ _ _ _ _ _ _ _ h (lv_sub hl [1, 2, 3, 4, 5, 6, 7, 8, 9, 10, 0] rfl) hR hS
  have b144 : ∀ (K43 : Nat → Nat → Nat → Nat → Nat → Nat → Nat → Int32 → Nat → Nat → k_M → Prop) (hK43 : ∀ (x0 : Nat) (x1 : Nat) (x2 : Nat) (x3 : Nat) (x4 : Nat) (x5 : Nat) (x6 : Nat) (x7 : Int32) (kc : Nat) (ks : Nat) (M : k_M) (H : Heap) (locs : List Loc) (ls : Array Slot), K43 x0 x1 x2 x3 x4 x5 x6 x7 kc ks M → lv_has ls 18 [(0, .ref x0), (1, .ref x1), (2, .ref x2), (3, .ref x3), (4, .ref x4), (5, .ref x5), (6, .ref x6), (7, .int x7)] → kR G M (fun q : Nat => s.heap.size ≤ q) H → va_S (fun q : Nat => s.heap.size ≤ q) s.heap H locs → W p l e room_1 s m #[Value.ref b] below meth c H locs kc ks (lw_Z below #[Value.ref b] s) (F0 m 43 ls [])), ∀ (x0 : Nat) (x1 : Nat) (x2 : Nat) (x3 : Nat) (x4 : Nat) (x5 : Nat) (x6 : Nat) (x7 : Int32) (x8 : Int32) (x9 : Int32) (x10 : Int32) (x11 : Int32) (s0 : Int32) (kc : Nat) (ks : Nat) (M : k_M) (H : Heap) (locs : List Loc) (ls : Array Slot), wp_L_law_b144 G 600000 7302250 (fun r _ => r = 1) K43 x0 x1 x2 x3 x4 x5 x6 x7 x8 x9 x10 x11 s0 kc ks M → lv_has ls 18 [(0, .ref x0), (1, .ref x1), (2, .ref x2), (3, .ref x3), (4, .ref x4), (5, .ref x5), (6, .ref x6), (7, .int x7), (8, .int x8), (9, .int x9), (10, .int x10), (11, .int x11)] → kR G M (fun q : Nat => s.heap.size ≤ q) H → va_S (fun q : Nat => s.heap.size ≤ q) s.heap H locs → W p l e room_1 s m #[Value.ref b] below meth c H locs kc ks (lw_Z below #[Value.ref b] s) (F0 m 144 ls [.int s0]) := by
    intro K43 hK43 x0 x1 x2 x3 x4 x5 x6 x7 x8 x9 x10 x11 s0 kc ks M H locs ls h hl hR hS
    refine lv_istore (lv' := [(12, .int s0), (0, .ref x0), (1, .ref x1), (2, .ref x2), (3, .ref x3), (4, .ref x4), (5, .ref x5), (6, .ref x6), (7, .int x7), (8, .int x8), (9, .int x9), (10, .int x10), (11, .int x11)]) hx hb dL_law_144 hl (by decide) rfl (fun ls hl => ?_)
    refine lv_iload hx hb dL_law_146 (lv_at hl 10 rfl) ?_
    refine lv_iconst (v := (2 : Int32)) hx hb dL_law_148 (by decide) ?_
    obtain ⟨ha, hb2⟩ := h
    refine lv_icmp_ge (tgt := 362) hx hb dL_law_149 (by decide) (fun hc => ?_) (fun hc => ?_)
    · replace h := ha hc
      refine lv_iload hx hb dL_law_362 (lv_at hl 10 rfl) ?_
      refine lv_iconst (v := (2 : Int32)) hx hb dL_law_364 (by decide) ?_
      obtain ⟨ha, hb2⟩ := h
      refine lv_icmp_ne (tgt := 478) hx hb dL_law_365 (by decide) (fun hc => ?_) (fun hc => ?_)
      · replace h := ha hc
        refine lv_iload hx hb dL_law_478 (lv_at hl 10 rfl) ?_
        refine lv_bipush (v := (7 : Int32)) hx hb dL_law_480 (by decide) ?_
        obtain ⟨ha, hb2⟩ := h
        refine lv_icmp_ge (tgt := 538) hx hb dL_law_482 (by decide) (fun hc => ?_) (fun hc => ?_)
        · replace h := ha hc
          refine lv_iload hx hb dL_law_538 (lv_at hl 10 rfl) ?_
          refine lv_bipush (v := (9 : Int32)) hx hb dL_law_540 (by decide) ?_
          obtain ⟨ha, hb2⟩ := h
          refine lv_icmp_ge (tgt := 644) hx hb dL_law_542 (by decide) (fun hc => ?_) (fun hc => ?_)
          · replace h := ha hc
            refine lv_iload hx hb dL_law_644 (lv_at hl 10 rfl) ?_
            refine lv_bipush (v := (11 : Int32)) hx hb dL_law_646 (by decide) ?_
            obtain ⟨ha, hb2⟩ := h
            refine lv_icmp_ge (tgt := 857) hx hb dL_law_648 (by decide) (fun hc => ?_) (fun hc => ?_)
            · replace h := ha hc
              exact b857 _ hK43 _ _ _ _ _ _ _ _ _ _ _ _ _ _ _ _ _ h (lv_sub hl [1, 2, 3, 4, 5, 6, 7, 8, 9, 10, 0] rfl) hR hS
            · replace h := hb2 hc
              refine lv_aload hx hb dL_law_651 (lv_at hl 6 rfl) ?_
              refine lv_iconst (v := (0 : Int32)) hx hb dL_law_653 (by decide) ?_
              obtain ⟨n167, f168, hm169, hv170, h⟩ := h
              refine k_iald hx hb hK hR hm169 hv170 dL_law_654 ?_
              obtain ⟨ha, hb2⟩ := h
              refine lv_if_le (tgt := 857) hx hb dL_law_655 (by decide) (fun hc => ?_) (fun hc => ?_)
              · replace h := ha hc
                exact b857 _ hK43 _ _ _ _ _ _ _ _ _ _ _ _ _ _ _ _ _ h (lv_sub hl [1, 2, 3, 4, 5, 6, 7, 8, 9, 10, 0] rfl) hR hS
              · replace h := hb2 hc
                refine lv_aload_n hx hb dL_law_658 rfl (lv_at hl 4 rfl) ?_
                refine lv_bipush (v := (32 : Int32)) hx hb dL_law_659 (by decide) ?_
                refine lv_aload_n hx hb dL_law_661 rfl (lv_at hl 4 rfl) ?_
                refine lv_iconst (v := (2 : Int32)) hx hb dL_law_662 (by decide) ?_
                refine lv_iload hx hb dL_law_663 (lv_at hl 11 rfl) ?_
                refine lv_imul hx hb dL_law_665 ?_
                obtain ⟨n171, f172, hm173, hv174, h⟩ := h
                refine k_lald hx hb hK hR hm173 hv174 dL_law_666 ?_
                obtain ⟨n175, f176, hm178, hv179, h⟩ := h
                replace h := h _ rfl
                refine k_last hx hb hK hR hS hm178 hv179 dL_law_667 (fun H locs hR hS => ?_)
                refine lv_aload_n hx hb dL_law_668 rfl (lv_at hl 4 rfl) ?_
                refine lv_bipush (v := (33 : Int32)) hx hb dL_law_669 (by decide) ?_
                refine lv_aload_n hx hb dL_law_671 rfl (lv_at hl 4 rfl) ?_
                refine lv_iconst (v := (2 : Int32)) hx hb dL_law_672 (by decide) ?_
                refine lv_iload hx hb dL_law_673 (lv_at hl 11 rfl) ?_
                refine lv_imul hx hb dL_law_675 ?_
                refine lv_iconst (v := (1 : Int32)) hx hb dL_law_676 (by decide) ?_
                refine lv_iadd hx hb dL_law_677 ?_
                obtain ⟨n180, f181, hm182, hv183, h⟩ := h
                refine k_lald hx hb hK hR hm182 hv183 dL_law_678 ?_
                obtain ⟨n184, f185, hm187, hv188, h⟩ := h
                replace h := h _ rfl
                refine k_last hx hb hK hR hS hm187 hv188 dL_law_679 (fun H locs hR hS => ?_)
                refine lv_aload hx hb dL_law_680 (lv_at hl 5 rfl) ?_
                refine lv_bipush (v := (16 : Int32)) hx hb dL_law_682 (by decide) ?_
                refine lv_aload hx hb dL_law_684 (lv_at hl 5 rfl) ?_
                refine lv_iload hx hb dL_law_686 (lv_at hl 11 rfl) ?_
                obtain ⟨n189, f190, hm191, hv192, h⟩ := h
                refine k_lald hx hb hK hR hm191 hv192 dL_law_688 ?_
                obtain ⟨n193, f194, hm196, hv197, h⟩ := h
                replace h := h _ rfl
                refine k_last hx hb hK hR hS hm196 hv197 dL_law_689 (fun H locs hR hS => ?_)
                refine lv_bipush (v := (16 : Int32)) hx hb dL_law_690 (by decide) ?_
                refine lv_bipush (v := (8 : Int32)) hx hb dL_law_692 (by decide) ?_
                refine lv_iload hx hb dL_law_694 (lv_at hl 0 rfl) ?_
                refine lv_iadd hx hb dL_law_696 ?_
                refine lv_aload_n hx hb dL_law_697 rfl (lv_at hl 4 rfl) ?_
                refine lv_aload hx hb dL_law_698 (lv_at hl 5 rfl) ?_
                obtain ⟨hc201, hc202, h⟩ := h
                refine k_callv0 (va_runS (As := [.int (16 : Int32), .int ((8 : Int32) + s0), .ref x3, .ref x4]) (rest := []) ⟨hx, hb, hml, hown, hts⟩ (c_L_take l G _ _ _ (16 : Int32) ((8 : Int32) + s0) x3 x4 h) (va_cwS 4 hts gL_law_L_take rfl rfl rfl (by decide +kernel) ⟨Nat.le_of_ble_eq_true rfl, Nat.le_of_ble_eq_true rfl⟩) (k_preS hR hS hA hE) rfl rfl hl.1 rfl (lv_room (Nat.le_of_ble_eq_true rfl)) dL_law_700 ⟨hc201, hc202⟩) hR hS hA (fun M199 H locs h hR hS => ?_)
                refine lv_bipush (v := (16 : Int32)) hx hb dL_law_703 (by decide) ?_
                refine lv_aload_n hx hb dL_law_705 rfl (lv_at hl 3 rfl) ?_
                refine lv_iload hx hb dL_law_706 (lv_at hl 11 rfl) ?_
                obtain ⟨n203, f204, hm205, hv206, h⟩ := h
                refine k_iald hx hb hK hR hm205 hv206 dL_law_708 ?_
                refine lv_aload_n hx hb dL_law_709 rfl (lv_at hl 4 rfl) ?_
                obtain ⟨hc210, hc211, h⟩ := h
                refine k_callv0 (va_runS (As := [.int (16 : Int32), .int (f204 (x10).toNatClampNeg), .ref x3]) (rest := []) ⟨hx, hb, hml, hown, hts⟩ (c_L_tick l G _ _ _ (16 : Int32) (f204 (x10).toNatClampNeg) x3 h) (va_cwS 3 hts gL_law_L_tick rfl rfl rfl (by decide +kernel) ⟨Nat.le_of_ble_eq_true rfl, Nat.le_of_ble_eq_true rfl⟩) (k_preS hR hS hA hE) rfl rfl hl.1 rfl (lv_room (Nat.le_of_ble_eq_true rfl)) dL_law_710 ⟨hc210, hc211⟩) hR hS hA (fun M208 H locs h hR hS => ?_)
                refine lv_aload_n hx hb dL_law_713 rfl (lv_at hl 2 rfl) ?_
                refine lv_iload hx hb dL_law_714 (lv_at hl 11 rfl) ?_
                refine lv_iload hx hb dL_law_716 (lv_at hl 0 rfl) ?_
                refine lv_iconst (v := (0 : Int32)) hx hb dL_law_718 (by decide) ?_
                obtain ⟨fs215, hm214, h⟩ := h
                obtain ⟨hc216, hc217, h⟩ := h
                refine k_calli0 (va_runV (As := [.int x10, .int s0, .int (0 : Int32)]) (rest := []) ⟨hx, hb, hml, hown, hts⟩ (c_X3_ifReceive l G _ _ _ x1 x10 s0 (0 : Int32) h) (cwV 3 hts gL_law_X3_ifReceive rfl rfl rfl (by decide +kernel) ⟨Nat.le_of_ble_eq_true rfl, Nat.le_of_ble_eq_true rfl⟩) (k_preV (q := (RX3, TX3, 8)) hm214 rfl hR hS hA hE) rfl rfl hl.1 rfl (lv_room (Nat.le_of_ble_eq_true rfl)) dL_law_719 ⟨hc216, hc217⟩) hR hS hA (fun r212 M213 H locs h hR hS => ?_)
                refine lv_aload hx hb dL_law_722 (lv_at hl 5 rfl) ?_
                refine lv_bipush (v := (16 : Int32)) hx hb dL_law_724 (by decide) ?_
                obtain ⟨n218, f219, hm220, hv221, h⟩ := h
                refine k_lald hx hb hK hR hm220 hv221 dL_law_726 ?_
                obtain ⟨hc225, hc226, h⟩ := h
                refine k_calli0 (va_runS (As := [.long (f219 ((16 : Int32)).toNatClampNeg)]) (rest := [.int r212]) ⟨hx, hb, hml, hown, hts⟩ (c_L_bits l G _ _ _ (f219 ((16 : Int32)).toNatClampNeg) h) (va_cwS 1 hts gL_law_L_bits rfl rfl rfl (by decide +kernel) ⟨Nat.le_of_ble_eq_true rfl, Nat.le_of_ble_eq_true rfl⟩) (k_preS hR hS hA hE) rfl rfl hl.1 rfl (lv_room (Nat.le_of_ble_eq_true rfl)) dL_law_727 ⟨hc225, hc226⟩) hR hS hA (fun r222 M223 H locs h hR hS => ?_)
                refine lv_iconst (v := (1 : Int32)) hx hb dL_law_730 (by decide) ?_
                refine lv_iadd hx hb dL_law_731 ?_
                refine lv_aload hx hb dL_law_732 (lv_at hl 5 rfl) ?_
                refine lv_iload hx hb dL_law_734 (lv_at hl 11 rfl) ?_
                obtain ⟨n227, f228, hm229, hv230, h⟩ := h
                refine k_lald hx hb hK hR hm229 hv230 dL_law_736 ?_
                obtain ⟨hc234, hc235, h⟩ := h
                refine k_calli0 (va_runS (As := [.long (f228 (x10).toNatClampNeg)]) (rest := [.int (r222 + (1 : Int32)), .int r212]) ⟨hx, hb, hml, hown, hts⟩ (c_L_bits l G _ _ _ (f228 (x10).toNatClampNeg) h) (va_cwS 1 hts gL_law_L_bits rfl rfl rfl (by decide +kernel) ⟨Nat.le_of_ble_eq_true rfl, Nat.le_of_ble_eq_true rfl⟩) (k_preS hR hS hA hE) rfl rfl hl.1 rfl (lv_room (Nat.le_of_ble_eq_true rfl)) dL_law_737 ⟨hc234, hc235⟩) hR hS hA (fun r231 M232 H locs h hR hS => ?_)
                refine lv_isub hx hb dL_law_740 ?_
                obtain ⟨ha, hb2⟩ := h
                refine lv_icmp_ne (tgt := 785) hx hb dL_law_741 (by decide) (fun hc => ?_) (fun hc => ?_)
                · replace h := ha hc
                  refine lv_iconst (v := (0 : Int32)) hx hb dL_law_785 (by decide) ?_
                  obtain ⟨hwc, hws, h⟩ := h
                  exact absurd (show (0 : Int32) = 1 from h) (by decide)
                · replace h := hb2 hc
                  refine lv_aload_n hx hb dL_law_744 rfl (lv_at hl 2 rfl) ?_
                  refine lv_iload hx hb dL_law_745 (lv_at hl 11 rfl) ?_
                  refine lv_iload hx hb dL_law_747 (lv_at hl 0 rfl) ?_
                  refine lv_iconst (v := (1 : Int32)) hx hb dL_law_749 (by decide) ?_
                  obtain ⟨fs239, hm238, h⟩ := h
                  obtain ⟨hc240, hc241, h⟩ := h
                  refine k_calli0 (va_runV (As := [.int x10, .int s0, .int (1 : Int32)]) (rest := []) ⟨hx, hb, hml, hown, hts⟩ (c_X3_ifReceive l G _ _ _ x1 x10 s0 (1 : Int32) h) (cwV 3 hts gL_law_X3_ifReceive rfl rfl rfl (by decide +kernel) ⟨Nat.le_of_ble_eq_true rfl, Nat.le_of_ble_eq_true rfl⟩) (k_preV (q := (RX3, TX3, 8)) hm238 rfl hR hS hA hE) rfl rfl hl.1 rfl (lv_room (Nat.le_of_ble_eq_true rfl)) dL_law_750 ⟨hc240, hc241⟩) hR hS hA (fun r236 M237 H locs h hR hS => ?_)
                  refine lv_bipush (v := (16 : Int32)) hx hb dL_law_753 (by decide) ?_
                  refine lv_bipush (v := (8 : Int32)) hx hb dL_law_755 (by decide) ?_
                  refine lv_iload hx hb dL_law_757 (lv_at hl 0 rfl) ?_
                  refine lv_iadd hx hb dL_law_759 ?_
                  refine lv_aload_n hx hb dL_law_760 rfl (lv_at hl 4 rfl) ?_
                  obtain ⟨hc245, hc246, h⟩ := h
                  refine k_calli0 (va_runS (As := [.int (16 : Int32), .int ((8 : Int32) + s0), .ref x3]) (rest := [.int r236]) ⟨hx, hb, hml, hown, hts⟩ (c_L_order l G _ _ _ (16 : Int32) ((8 : Int32) + s0) x3 h) (va_cwS 3 hts gL_law_L_order rfl rfl rfl (by decide +kernel) ⟨Nat.le_of_ble_eq_true rfl, Nat.le_of_ble_eq_true rfl⟩) (k_preS hR hS hA hE) rfl rfl hl.1 rfl (lv_room (Nat.le_of_ble_eq_true rfl)) dL_law_761 ⟨hc245, hc246⟩) hR hS hA (fun r242 M243 H locs h hR hS => ?_)
                  obtain ⟨ha, hb2⟩ := h
                  refine lv_icmp_ne (tgt := 785) hx hb dL_law_764 (by decide) (fun hc => ?_) (fun hc => ?_)
                  · replace h := ha hc
                    refine lv_iconst (v := (0 : Int32)) hx hb dL_law_785 (by decide) ?_
                    obtain ⟨hwc, hws, h⟩ := h
                    exact absurd (show (0 : Int32) = 1 from h) (by decide)
                  · replace h := hb2 hc
                    refine lv_aload_n hx hb dL_law_767 rfl (lv_at hl 2 rfl) ?_
                    refine lv_iload hx hb dL_law_768 (lv_at hl 11 rfl) ?_
                    refine lv_iload hx hb dL_law_770 (lv_at hl 0 rfl) ?_
                    refine lv_iconst (v := (2 : Int32)) hx hb dL_law_772 (by decide) ?_
                    obtain ⟨fs250, hm249, h⟩ := h
                    obtain ⟨hc251, hc252, h⟩ := h
                    refine k_calli0 (va_runV (As := [.int x10, .int s0, .int (2 : Int32)]) (rest := []) ⟨hx, hb, hml, hown, hts⟩ (c_X3_ifReceive l G _ _ _ x1 x10 s0 (2 : Int32) h) (cwV 3 hts gL_law_X3_ifReceive rfl rfl rfl (by decide +kernel) ⟨Nat.le_of_ble_eq_true rfl, Nat.le_of_ble_eq_true rfl⟩) (k_preV (q := (RX3, TX3, 8)) hm249 rfl hR hS hA hE) rfl rfl hl.1 rfl (lv_room (Nat.le_of_ble_eq_true rfl)) dL_law_773 ⟨hc251, hc252⟩) hR hS hA (fun r247 M248 H locs h hR hS => ?_)
                    refine lv_bipush (v := (16 : Int32)) hx hb dL_law_776 (by decide) ?_
                    refine lv_aload_n hx hb dL_law_778 rfl (lv_at hl 4 rfl) ?_
                    obtain ⟨hc256, hc257, h⟩ := h
                    refine k_calli0 (va_runS (As := [.int (16 : Int32), .ref x3]) (rest := [.int r247]) ⟨hx, hb, hml, hown, hts⟩ (c_L_knots l G _ _ _ (16 : Int32) x3 h) (va_cwS 2 hts gL_law_L_knots rfl rfl rfl (by decide +kernel) ⟨Nat.le_of_ble_eq_true rfl, Nat.le_of_ble_eq_true rfl⟩) (k_preS hR hS hA hE) rfl rfl hl.1 rfl (lv_room (Nat.le_of_ble_eq_true rfl)) dL_law_779 ⟨hc256, hc257⟩) hR hS hA (fun r253 M254 H locs h hR hS => ?_)
                    obtain ⟨ha, hb2⟩ := h
                    refine lv_icmp_eq (tgt := 787) hx hb dL_law_782 (by decide) (fun hc => ?_) (fun hc => ?_)
                    · replace h := ha hc
                      refine lv_aload_n hx hb dL_law_787 rfl (lv_at hl 4 rfl) ?_
                      refine lv_iconst (v := (2 : Int32)) hx hb dL_law_788 (by decide) ?_
                      refine lv_iload hx hb dL_law_789 (lv_at hl 11 rfl) ?_
                      refine lv_imul hx hb dL_law_791 ?_
                      refine lv_aload_n hx hb dL_law_792 rfl (lv_at hl 4 rfl) ?_
                      refine lv_bipush (v := (32 : Int32)) hx hb dL_law_793 (by decide) ?_
                      obtain ⟨n258, f259, hm260, hv261, h⟩ := h
                      refine k_lald hx hb hK hR hm260 hv261 dL_law_795 ?_
                      obtain ⟨n262, f263, hm265, hv266, h⟩ := h
                      replace h := h _ rfl
                      refine k_last hx hb hK hR hS hm265 hv266 dL_law_796 (fun H locs hR hS => ?_)
                      refine lv_aload_n hx hb dL_law_797 rfl (lv_at hl 4 rfl) ?_
                      refine lv_iconst (v := (2 : Int32)) hx hb dL_law_798 (by decide) ?_
                      refine lv_iload hx hb dL_law_799 (lv_at hl 11 rfl) ?_
                      refine lv_imul hx hb dL_law_801 ?_
                      refine lv_iconst (v := (1 : Int32)) hx hb dL_law_802 (by decide) ?_
                      refine lv_iadd hx hb dL_law_803 ?_
                      refine lv_aload_n hx hb dL_law_804 rfl (lv_at hl 4 rfl) ?_
                      refine lv_bipush (v := (33 : Int32)) hx hb dL_law_805 (by decide) ?_
                      obtain ⟨n267, f268, hm269, hv270, h⟩ := h
                      refine k_lald hx hb hK hR hm269 hv270 dL_law_807 ?_
                      obtain ⟨n271, f272, hm274, hv275, h⟩ := h
                      replace h := h _ rfl
                      refine k_last hx hb hK hR hS hm274 hv275 dL_law_808 (fun H locs hR hS => ?_)
                      refine lv_aload hx hb dL_law_809 (lv_at hl 5 rfl) ?_
                      refine lv_iload hx hb dL_law_811 (lv_at hl 11 rfl) ?_
                      refine lv_aload hx hb dL_law_813 (lv_at hl 5 rfl) ?_
                      refine lv_bipush (v := (16 : Int32)) hx hb dL_law_815 (by decide) ?_
                      obtain ⟨n276, f277, hm278, hv279, h⟩ := h
                      refine k_lald hx hb hK hR hm278 hv279 dL_law_817 ?_
                      refine lv_lconst (v := (1 : Int64)) hx hb dL_law_818 (by decide) ?_
                      refine lv_aload hx hb dL_law_819 (lv_at hl 6 rfl) ?_
                      refine lv_iconst (v := (1 : Int32)) hx hb dL_law_821 (by decide) ?_
                      obtain ⟨n280, f281, hm282, hv283, h⟩ := h
                      refine k_iald hx hb hK hR hm282 hv283 dL_law_822 ?_
                      refine lv_lshl hx hb dL_law_823 rfl ?_
                      refine lv_lor hx hb dL_law_824 ?_
                      obtain ⟨n284, f285, hm287, hv288, h⟩ := h
                      replace h := h _ rfl
                      refine k_last hx hb hK hR hS hm287 hv288 dL_law_825 (fun H locs hR hS => ?_)
                      refine lv_aload hx hb dL_law_826 (lv_at hl 7 rfl) ?_
                      refine lv_aload hx hb dL_law_828 (lv_at hl 6 rfl) ?_
                      refine lv_iconst (v := (1 : Int32)) hx hb dL_law_830 (by decide) ?_
                      obtain ⟨n289, f290, hm291, hv292, h⟩ := h
                      refine k_iald hx hb hK hR hm291 hv292 dL_law_831 ?_
                      refine lv_iload hx hb dL_law_832 (lv_at hl 11 rfl) ?_
                      obtain ⟨n293, f294, hm296, hv297, h⟩ := h
                      replace h := h _ rfl
                      refine k_iast hx hb hK hR hS hm296 hv297 dL_law_834 (fun H locs hR hS => ?_)
                      refine lv_aload_n hx hb dL_law_835 rfl (lv_at hl 2 rfl) ?_
                      refine lv_iload hx hb dL_law_836 (lv_at hl 11 rfl) ?_
                      refine lv_iload hx hb dL_law_838 (lv_at hl 0 rfl) ?_
                      obtain ⟨fs301, hm300, h⟩ := h
                      obtain ⟨hc302, hc303, h⟩ := h
                      refine k_calli0 (va_runV (As := [.int x10, .int s0]) (rest := []) ⟨hx, hb, hml, hown, hts⟩ (c_X3_receive l G _ _ _ x1 x10 s0 h) (cwV 2 hts gL_law_X3_receive rfl rfl rfl (by decide +kernel) ⟨Nat.le_of_ble_eq_true rfl, Nat.le_of_ble_eq_true rfl⟩) (k_preV (q := (RX3, TX3, 8)) hm300 rfl hR hS hA hE) rfl rfl hl.1 rfl (lv_room (Nat.le_of_ble_eq_true rfl)) dL_law_840 ⟨hc302, hc303⟩) hR hS hA (fun r298 M299 H locs h hR hS => ?_)
                      refine lv_aload hx hb dL_law_843 (lv_at hl 6 rfl) ?_
                      refine lv_iconst (v := (1 : Int32)) hx hb dL_law_845 (by decide) ?_
                      refine lv_dup2_11 hx hb dL_law_846 rfl rfl ?_
                      obtain ⟨n304, f305, hm306, hv307, h⟩ := h
                      refine k_iald hx hb hK hR hm306 hv307 dL_law_847 ?_
                      refine lv_dup_x2 hx hb dL_law_848 rfl rfl rfl ?_
                      refine lv_iconst (v := (1 : Int32)) hx hb dL_law_849 (by decide) ?_
                      refine lv_iadd hx hb dL_law_850 ?_
                      obtain ⟨n308, f309, hm311, hv312, h⟩ := h
                      replace h := h _ rfl
                      refine k_iast hx hb hK hR hS hm311 hv312 dL_law_851 (fun H locs hR hS => ?_)
                      obtain ⟨ha, hb2⟩ := h
                      refine lv_icmp_eq (tgt := 988) hx hb dL_law_852 (by decide) (fun hc => ?_) (fun hc => ?_)
                      · replace h := ha hc
                        exact b988 _ hK43 _ _ _ _ _ _ _ _ _ _ _ _ _ _ _ h (lv_sub hl [1, 2, 3, 4, 5, 6, 7, 8, 9] rfl) hR hS
                      · replace h := hb2 hc
                        refine lv_iconst (v := (0 : Int32)) hx hb dL_law_855 (by decide) ?_
                        obtain ⟨hwc, hws, h⟩ := h
                        exact absurd (show (0 : Int32) = 1 from h) (by decide)
                    · replace h := hb2 hc
                      refine lv_iconst (v := (0 : Int32)) hx hb dL_law_785 (by decide) ?_
                      obtain ⟨hwc, hws, h⟩ := h
                      exact absurd (show (0 : Int32) = 1 from h) (by decide)
          · replace h := hb2 hc
            refine lv_aload_n hx hb dL_law_545 rfl (lv_at hl 2 rfl) ?_
            refine lv_iload hx hb dL_law_546 (lv_at hl 11 rfl) ?_
            obtain ⟨fs316, hm315, h⟩ := h
            obtain ⟨hc317, hc318, h⟩ := h
            refine k_calli0 (va_runV (As := [.int x10]) (rest := []) ⟨hx, hb, hml, hown, hts⟩ (c_X3_send l G _ _ _ x1 x10 h) (cwV 1 hts gL_law_X3_send rfl rfl rfl (by decide +kernel) ⟨Nat.le_of_ble_eq_true rfl, Nat.le_of_ble_eq_true rfl⟩) (k_preV (q := (RX3, TX3, 8)) hm315 rfl hR hS hA hE) rfl rfl hl.1 rfl (lv_room (Nat.le_of_ble_eq_true rfl)) dL_law_548 ⟨hc317, hc318⟩) hR hS hA (fun r313 M314 H locs h hR hS => ?_)
            refine lv_aload hx hb dL_law_551 (lv_at hl 6 rfl) ?_
            refine lv_iconst (v := (0 : Int32)) hx hb dL_law_553 (by decide) ?_
            obtain ⟨n319, f320, hm321, hv322, h⟩ := h
            refine k_iald hx hb hK hR hm321 hv322 dL_law_554 ?_
            refine lv_bipush (v := (8 : Int32)) hx hb dL_law_555 (by decide) ?_
            obtain ⟨ha, hb2⟩ := h
            refine lv_icmp_ne (tgt := 565) hx hb dL_law_557 (by decide) (fun hc => ?_) (fun hc => ?_)
            · replace h := ha hc
              refine lv_aload hx hb dL_law_565 (lv_at hl 6 rfl) ?_
              refine lv_iconst (v := (0 : Int32)) hx hb dL_law_567 (by decide) ?_
              obtain ⟨n323, f324, hm325, hv326, h⟩ := h
              refine k_iald hx hb hK hR hm325 hv326 dL_law_568 ?_
              exact b569 _ hK43 _ _ _ _ _ _ _ _ _ _ _ _ _ _ _ _ _ _ h (lv_sub hl [1, 2, 3, 4, 5, 6, 7, 8, 9, 11] rfl) hR hS
            · replace h := hb2 hc
              refine lv_bipush (v := (-4 : Int32)) hx hb dL_law_560 (by decide) ?_
              refine lv_goto (tgt := 569) hx hb dL_law_562 (by decide) ?_
              exact b569 _ hK43 _ _ _ _ _ _ _ _ _ _ _ _ _ _ _ _ _ _ h (lv_sub hl [1, 2, 3, 4, 5, 6, 7, 8, 9, 11] rfl) hR hS
        · replace h := hb2 hc
          refine lv_iload hx hb dL_law_485 (lv_at hl 11 rfl) ?_
          refine lv_aload_n hx hb dL_law_487 rfl (lv_at hl 3 rfl) ?_
          refine lv_iload hx hb dL_law_488 (lv_at hl 11 rfl) ?_
          obtain ⟨n373, f374, hm375, hv376, h⟩ := h
          refine k_iald hx hb hK hR hm375 hv376 dL_law_490 ?_
          refine lv_aload_n hx hb dL_law_491 rfl (lv_at hl 4 rfl) ?_
          obtain ⟨hc380, hc381, h⟩ := h
          refine k_callv0 (va_runS (As := [.int x10, .int (f374 (x10).toNatClampNeg), .ref x3]) (rest := []) ⟨hx, hb, hml, hown, hts⟩ (c_L_tick l G _ _ _ x10 (f374 (x10).toNatClampNeg) x3 h) (va_cwS 3 hts gL_law_L_tick rfl rfl rfl (by decide +kernel) ⟨Nat.le_of_ble_eq_true rfl, Nat.le_of_ble_eq_true rfl⟩) (k_preS hR hS hA hE) rfl rfl hl.1 rfl (lv_room (Nat.le_of_ble_eq_true rfl)) dL_law_492 ⟨hc380, hc381⟩) hR hS hA (fun M378 H locs h hR hS => ?_)
          refine lv_aload hx hb dL_law_495 (lv_at hl 5 rfl) ?_
          refine lv_iload hx hb dL_law_497 (lv_at hl 11 rfl) ?_
          refine lv_dup2_11 hx hb dL_law_499 rfl rfl ?_
          obtain ⟨n382, f383, hm384, hv385, h⟩ := h
          refine k_lald hx hb hK hR hm384 hv385 dL_law_500 ?_
          refine lv_lconst (v := (1 : Int64)) hx hb dL_law_501 (by decide) ?_
          refine lv_aload hx hb dL_law_502 (lv_at hl 6 rfl) ?_
          refine lv_iconst (v := (1 : Int32)) hx hb dL_law_504 (by decide) ?_
          obtain ⟨n386, f387, hm388, hv389, h⟩ := h
          refine k_iald hx hb hK hR hm388 hv389 dL_law_505 ?_
          refine lv_lshl hx hb dL_law_506 rfl ?_
          refine lv_lor hx hb dL_law_507 ?_
          obtain ⟨n390, f391, hm393, hv394, h⟩ := h
          replace h := h _ rfl
          refine k_last hx hb hK hR hS hm393 hv394 dL_law_508 (fun H locs hR hS => ?_)
          refine lv_aload hx hb dL_law_509 (lv_at hl 7 rfl) ?_
          refine lv_aload hx hb dL_law_511 (lv_at hl 6 rfl) ?_
          refine lv_iconst (v := (1 : Int32)) hx hb dL_law_513 (by decide) ?_
          obtain ⟨n395, f396, hm397, hv398, h⟩ := h
          refine k_iald hx hb hK hR hm397 hv398 dL_law_514 ?_
          refine lv_iload hx hb dL_law_515 (lv_at hl 11 rfl) ?_
          obtain ⟨n399, f400, hm402, hv403, h⟩ := h
          replace h := h _ rfl
          refine k_iast hx hb hK hR hS hm402 hv403 dL_law_517 (fun H locs hR hS => ?_)
          refine lv_aload_n hx hb dL_law_518 rfl (lv_at hl 2 rfl) ?_
          refine lv_iload hx hb dL_law_519 (lv_at hl 11 rfl) ?_
          obtain ⟨fs407, hm406, h⟩ := h
          obtain ⟨hc408, hc409, h⟩ := h
          refine k_calli0 (va_runV (As := [.int x10]) (rest := []) ⟨hx, hb, hml, hown, hts⟩ (c_X3_event l G _ _ _ x1 x10 h) (cwV 1 hts gL_law_X3_event rfl rfl rfl (by decide +kernel) ⟨Nat.le_of_ble_eq_true rfl, Nat.le_of_ble_eq_true rfl⟩) (k_preV (q := (RX3, TX3, 8)) hm406 rfl hR hS hA hE) rfl rfl hl.1 rfl (lv_room (Nat.le_of_ble_eq_true rfl)) dL_law_521 ⟨hc408, hc409⟩) hR hS hA (fun r404 M405 H locs h hR hS => ?_)
          refine lv_aload hx hb dL_law_524 (lv_at hl 6 rfl) ?_
          refine lv_iconst (v := (1 : Int32)) hx hb dL_law_526 (by decide) ?_
          refine lv_dup2_11 hx hb dL_law_527 rfl rfl ?_
          obtain ⟨n410, f411, hm412, hv413, h⟩ := h
          refine k_iald hx hb hK hR hm412 hv413 dL_law_528 ?_
          refine lv_dup_x2 hx hb dL_law_529 rfl rfl rfl ?_
          refine lv_iconst (v := (1 : Int32)) hx hb dL_law_530 (by decide) ?_
          refine lv_iadd hx hb dL_law_531 ?_
          obtain ⟨n414, f415, hm417, hv418, h⟩ := h
          replace h := h _ rfl
          refine k_iast hx hb hK hR hS hm417 hv418 dL_law_532 (fun H locs hR hS => ?_)
          obtain ⟨ha, hb2⟩ := h
          refine lv_icmp_eq (tgt := 988) hx hb dL_law_533 (by decide) (fun hc => ?_) (fun hc => ?_)
          · replace h := ha hc
            exact b988 _ hK43 _ _ _ _ _ _ _ _ _ _ _ _ _ _ _ h (lv_sub hl [1, 2, 3, 4, 5, 6, 7, 8, 9] rfl) hR hS
          · replace h := hb2 hc
            refine lv_iconst (v := (0 : Int32)) hx hb dL_law_536 (by decide) ?_
            obtain ⟨hwc, hws, h⟩ := h
            exact absurd (show (0 : Int32) = 1 from h) (by decide)
      · replace h := hb2 hc
        refine lv_aload_n hx hb dL_law_368 rfl (lv_at hl 3 rfl) ?_
        refine lv_iload hx hb dL_law_369 (lv_at hl 12 rfl) ?_
        obtain ⟨n419, f420, hm421, hv422, h⟩ := h
        refine k_iald hx hb hK hR hm421 hv422 dL_law_371 ?_
        obtain ⟨ha, hb2⟩ := h
        refine lv_if_eq (tgt := 386) hx hb dL_law_372 (by decide) (fun hc => ?_) (fun hc => ?_)
        · replace h := ha hc
          exact b386 _ hK43 _ _ _ _ _ _ _ _ _ _ _ _ _ _ _ _ _ h (lv_sub hl [1, 2, 3, 4, 5, 6, 7, 8, 9, 11, 12] rfl) hR hS
        · replace h := hb2 hc
          refine lv_iload hx hb dL_law_375 (lv_at hl 12 rfl) ?_
          refine lv_iload hx hb dL_law_377 (lv_at hl 11 rfl) ?_
          obtain ⟨ha, hb2⟩ := h
          refine lv_icmp_eq (tgt := 386) hx hb dL_law_379 (by decide) (fun hc => ?_) (fun hc => ?_)
          · replace h := ha hc
            exact b386 _ hK43 _ _ _ _ _ _ _ _ _ _ _ _ _ _ _ _ _ h (lv_sub hl [1, 2, 3, 4, 5, 6, 7, 8, 9, 11, 12] rfl) hR hS
          · replace h := hb2 hc
            refine lv_iconst (v := (1 : Int32)) hx hb dL_law_382 (by decide) ?_
            refine lv_goto (tgt := 387) hx hb dL_law_383 (by decide) ?_
            exact b387 _ hK43 _ _ _ _ _ _ _ _ _ _ _ _ _ _ _ _ _ _ h (lv_sub hl [1, 2, 3, 4, 5, 6, 7, 8, 9, 11, 12] rfl) hR hS
    · replace h := hb2 hc
      refine lv_iconst (v := (0 : Int32)) hx hb dL_law_152 (by decide) ?_
      refine lv_istore (lv' := [(13, .int (0 : Int32)), (12, .int s0), (0, .ref x0), (1, .ref x1), (2, .ref x2), (3, .ref x3), (4, .ref x4), (5, .ref x5), (6, .ref x6), (7, .int x7), (8, .int x8), (9, .int x9), (10, .int x10), (11, .int x11)]) hx hb dL_law_153 hl (by decide) rfl (fun ls hl => ?_)
      obtain ⟨k474, h⟩ := h
      exact L155 _ hK43 k474 _ _ _ _ _ _ _ _ _ _ _ _ _ _ _ _ _ h (lv_sub hl [2, 3, 4, 5, 6, 7, 8, 9, 10, 12, 0] rfl) hR hS
  have b110 : ∀ (K43 : Nat → Nat → Nat → Nat → Nat → Nat → Nat → Int32 → Nat → Nat → k_M → Prop) (hK43 : ∀ (x0 : Nat) (x1 : Nat) (x2 : Nat) (x3 : Nat) (x4 : Nat) (x5 : Nat) (x6 : Nat) (x7 : Int32) (kc : Nat) (ks : Nat) (M : k_M) (H : Heap) (locs : List Loc) (ls : Array Slot), K43 x0 x1 x2 x3 x4 x5 x6 x7 kc ks M → lv_has ls 18 [(0, .ref x0), (1, .ref x1), (2, .ref x2), (3, .ref x3), (4, .ref x4), (5, .ref x5), (6, .ref x6), (7, .int x7)] → kR G M (fun q : Nat => s.heap.size ≤ q) H → va_S (fun q : Nat => s.heap.size ≤ q) s.heap H locs → W p l e room_1 s m #[Value.ref b] below meth c H locs kc ks (lw_Z below #[Value.ref b] s) (F0 m 43 ls [])), ∀ (x0 : Nat) (x1 : Nat) (x2 : Nat) (x3 : Nat) (x4 : Nat) (x5 : Nat) (x6 : Nat) (x7 : Int32) (x8 : Int32) (x9 : Int32) (x10 : Int32) (kc : Nat) (ks : Nat) (M : k_M) (H : Heap) (locs : List Loc) (ls : Array Slot), wp_L_law_b110 G 600000 7302250 (fun r _ => r = 1) K43 x0 x1 x2 x3 x4 x5 x6 x7 x8 x9 x10 kc ks M → lv_has ls 18 [(0, .ref x0), (1, .ref x1), (2, .ref x2), (3, .ref x3), (4, .ref x4), (5, .ref x5), (6, .ref x6), (7, .int x7), (8, .int x8), (9, .int x9), (10, .int x10)] → kR G M (fun q : Nat => s.heap.size ≤ q) H → va_S (fun q : Nat => s.heap.size ≤ q) s.heap H locs → W p l e room_1 s m #[Value.ref b] below meth c H locs kc ks (lw_Z below #[Value.ref b] s) (F0 m 110 ls []) := by
    intro K43 hK43 x0 x1 x2 x3 x4 x5 x6 x7 x8 x9 x10 kc ks M H locs ls h hl hR hS
    refine lv_iload hx hb dL_law_110 (lv_at hl 8 rfl) ?_
    refine lv_bipush (v := (7 : Int32)) hx hb dL_law_112 (by decide) ?_
    refine lv_ishr hx hb dL_law_114 ?_
    refine lv_bipush (v := (8 : Int32)) hx hb dL_law_115 (by decide) ?_
    obtain ⟨hc77, hc78, h⟩ := h
    refine k_calli0 (va_runS (As := [.int (x8 >>> ((7 : Int32) &&& 31)), .int (8 : Int32)]) (rest := []) ⟨hx, hb, hml, hown, hts⟩ (c_L_low l G _ _ _ (x8 >>> ((7 : Int32) &&& 31)) (8 : Int32) h) (va_cwS 2 hts gL_law_L_low rfl rfl rfl (by decide +kernel) ⟨Nat.le_of_ble_eq_true rfl, Nat.le_of_ble_eq_true rfl⟩) (k_preS hR hS hA hE) rfl rfl hl.1 rfl (lv_room (Nat.le_of_ble_eq_true rfl)) dL_law_117 ⟨hc77, hc78⟩) hR hS hA (fun r74 M75 H locs h hR hS => ?_)
    refine lv_istore (lv' := [(11, .int r74), (0, .ref x0), (1, .ref x1), (2, .ref x2), (3, .ref x3), (4, .ref x4), (5, .ref x5), (6, .ref x6), (7, .int x7), (8, .int x8), (9, .int x9), (10, .int x10)]) hx hb dL_law_120 hl (by decide) rfl (fun ls hl => ?_)
    refine lv_aload hx hb dL_law_122 (lv_at hl 6 rfl) ?_
    refine lv_iconst (v := (0 : Int32)) hx hb dL_law_124 (by decide) ?_
    obtain ⟨n79, f80, hm81, hv82, h⟩ := h
    refine k_iald hx hb hK hR hm81 hv82 dL_law_125 ?_
    obtain ⟨ha, hb2⟩ := h
    refine lv_if_ne (tgt := 133) hx hb dL_law_126 (by decide) (fun hc => ?_) (fun hc => ?_)
    · replace h := ha hc
      refine lv_iload hx hb dL_law_133 (lv_at hl 9 rfl) ?_
      refine lv_iconst (v := (5 : Int32)) hx hb dL_law_135 (by decide) ?_
      refine lv_ishr hx hb dL_law_136 ?_
      refine lv_aload hx hb dL_law_137 (lv_at hl 6 rfl) ?_
      refine lv_iconst (v := (0 : Int32)) hx hb dL_law_139 (by decide) ?_
      obtain ⟨n83, f84, hm85, hv86, h⟩ := h
      refine k_iald hx hb hK hR hm85 hv86 dL_law_140 ?_
      obtain ⟨hc90, hc91, h⟩ := h
      refine k_calli0 (va_runS (As := [.int (x8 >>> ((5 : Int32) &&& 31)), .int (f84 ((0 : Int32)).toNatClampNeg)]) (rest := []) ⟨hx, hb, hml, hown, hts⟩ (c_L_low l G _ _ _ (x8 >>> ((5 : Int32) &&& 31)) (f84 ((0 : Int32)).toNatClampNeg) h) (va_cwS 2 hts gL_law_L_low rfl rfl rfl (by decide +kernel) ⟨Nat.le_of_ble_eq_true rfl, Nat.le_of_ble_eq_true rfl⟩) (k_preS hR hS hA hE) rfl rfl hl.1 rfl (lv_room (Nat.le_of_ble_eq_true rfl)) dL_law_141 ⟨hc90, hc91⟩) hR hS hA (fun r87 M88 H locs h hR hS => ?_)
      exact b144 _ hK43 _ _ _ _ _ _ _ _ _ _ _ _ _ _ _ _ _ _ _ h (lv_sub hl [1, 2, 3, 4, 5, 6, 7, 8, 9, 10, 11, 0] rfl) hR hS
    · replace h := hb2 hc
      refine lv_iconst (v := (0 : Int32)) hx hb dL_law_129 (by decide) ?_
      refine lv_goto (tgt := 144) hx hb dL_law_130 (by decide) ?_
      exact b144 _ hK43 _ _ _ _ _ _ _ _ _ _ _ _ _ _ _ _ _ _ _ h (lv_sub hl [1, 2, 3, 4, 5, 6, 7, 8, 9, 10, 11, 0] rfl) hR hS
  have L81 : ∀ (K43 : Nat → Nat → Nat → Nat → Nat → Nat → Nat → Int32 → Nat → Nat → k_M → Prop) (hK43 : ∀ (x0 : Nat) (x1 : Nat) (x2 : Nat) (x3 : Nat) (x4 : Nat) (x5 : Nat) (x6 : Nat) (x7 : Int32) (kc : Nat) (ks : Nat) (M : k_M) (H : Heap) (locs : List Loc) (ls : Array Slot), K43 x0 x1 x2 x3 x4 x5 x6 x7 kc ks M → lv_has ls 18 [(0, .ref x0), (1, .ref x1), (2, .ref x2), (3, .ref x3), (4, .ref x4), (5, .ref x5), (6, .ref x6), (7, .int x7)] → kR G M (fun q : Nat => s.heap.size ≤ q) H → va_S (fun q : Nat => s.heap.size ≤ q) s.heap H locs → W p l e room_1 s m #[Value.ref b] below meth c H locs kc ks (lw_Z below #[Value.ref b] s) (F0 m 43 ls [])) (n : Nat), ∀ (x0 : Nat) (x1 : Nat) (x2 : Nat) (x3 : Nat) (x4 : Nat) (x5 : Nat) (x6 : Nat) (x7 : Int32) (x8 : Int32) (x9 : Int32) (x10 : Int32) (x11 : Int32) (kc : Nat) (ks : Nat) (M : k_M) (H : Heap) (locs : List Loc) (ls : Array Slot), wp_L_law_L81 G 600000 7302250 (fun r _ => r = 1) K43 n x0 x1 x2 x3 x4 x5 x6 x7 x8 x9 x10 x11 kc ks M → lv_has ls 18 [(0, .ref x0), (1, .ref x1), (2, .ref x2), (3, .ref x3), (4, .ref x4), (5, .ref x5), (6, .ref x6), (7, .int x7), (8, .int x8), (9, .int x9), (10, .int x10), (11, .int x11)] → kR G M (fun q : Nat => s.heap.size ≤ q) H → va_S (fun q : Nat => s.heap.size ≤ q) s.heap H locs → W p l e room_1 s m #[Value.ref b] below meth c H locs kc ks (lw_Z below #[Value.ref b] s) (F0 m 81 ls []) := by
    intro K43 hK43 n
    induction n with
    | zero =>
      intro  x0 x1 x2 x3 x4 x5 x6 x7 x8 x9 x10 x11 kc ks M H locs ls h
      exact False.elim h
    | succ n ih =>
      intro  x0 x1 x2 x3 x4 x5 x6 x7 x8 x9 x10 x11 kc ks M H locs ls h hl hR hS
      refine lv_iload hx hb dL_law_81 (lv_at hl 11 rfl) ?_
      refine lv_bipush (v := (8 : Int32)) hx hb dL_law_83 (by decide) ?_
      obtain ⟨ha, hb2⟩ := h
      refine lv_icmp_ge (tgt := 110) hx hb dL_law_85 (by decide) (fun hc => ?_) (fun hc => ?_)
      · replace h := ha hc
        exact b110 _ hK43 _ _ _ _ _ _ _ _ _ _ _ _ _ _ _ _ _ h (lv_sub hl [0, 1, 2, 3, 4, 5, 6, 7, 8, 9, 10] rfl) hR hS
      · replace h := hb2 hc
        refine lv_aload_n hx hb dL_law_88 rfl (lv_at hl 2 rfl) ?_
        refine lv_iload hx hb dL_law_89 (lv_at hl 10 rfl) ?_
        obtain ⟨n555, f556, hm557, hv558, h⟩ := h
        refine k_iald hx hb hK hR hm557 hv558 dL_law_91 ?_
        obtain ⟨ha, hb2⟩ := h
        refine lv_if_ne (tgt := 110) hx hb dL_law_92 (by decide) (fun hc => ?_) (fun hc => ?_)
        · replace h := ha hc
          exact b110 _ hK43 _ _ _ _ _ _ _ _ _ _ _ _ _ _ _ _ _ h (lv_sub hl [0, 1, 2, 3, 4, 5, 6, 7, 8, 9, 10] rfl) hR hS
        · replace h := hb2 hc
          refine lv_iload hx hb dL_law_95 (lv_at hl 10 rfl) ?_
          refine lv_iconst (v := (1 : Int32)) hx hb dL_law_97 (by decide) ?_
          refine lv_iadd hx hb dL_law_98 ?_
          refine lv_bipush (v := (8 : Int32)) hx hb dL_law_99 (by decide) ?_
          refine lv_irem hx hb dL_law_101 (by decide) ?_
          refine lv_topi (fun y559 ey559 => ?_)
          replace h := h y559 ey559
          refine lv_istore (lv' := [(10, .int y559), (0, .ref x0), (1, .ref x1), (2, .ref x2), (3, .ref x3), (4, .ref x4), (5, .ref x5), (6, .ref x6), (7, .int x7), (8, .int x8), (9, .int x9), (11, .int x11)]) hx hb dL_law_102 hl (by decide) rfl (fun ls hl => ?_)
          refine lv_iinc (v := (x11 + (1 : Int32))) (lv' := [(11, .int (x11 + (1 : Int32))), (10, .int y559), (0, .ref x0), (1, .ref x1), (2, .ref x2), (3, .ref x3), (4, .ref x4), (5, .ref x5), (6, .ref x6), (7, .int x7), (8, .int x8), (9, .int x9)]) hx hb dL_law_104 hl (k := 11) rfl rfl (by decide) rfl (fun ls hl => ?_)
          refine lv_goto (tgt := 81) hx hb dL_law_107 (by decide) ?_
          exact ih _ _ _ _ _ _ _ _ _ _ _ _ _ _ _ _ _ _ h (lv_sub hl [2, 3, 4, 5, 6, 7, 8, 9, 10, 11, 1, 0] rfl) hR hS
  have L43 : ∀ (n : Nat), ∀ (x0 : Nat) (x1 : Nat) (x2 : Nat) (x3 : Nat) (x4 : Nat) (x5 : Nat) (x6 : Nat) (x7 : Int32) (kc : Nat) (ks : Nat) (M : k_M) (H : Heap) (locs : List Loc) (ls : Array Slot), wp_L_law_L43 G 600000 7302250 (fun r _ => r = 1) n x0 x1 x2 x3 x4 x5 x6 x7 kc ks M → lv_has ls 18 [(0, .ref x0), (1, .ref x1), (2, .ref x2), (3, .ref x3), (4, .ref x4), (5, .ref x5), (6, .ref x6), (7, .int x7)] → kR G M (fun q : Nat => s.heap.size ≤ q) H → va_S (fun q : Nat => s.heap.size ≤ q) s.heap H locs → W p l e room_1 s m #[Value.ref b] below meth c H locs kc ks (lw_Z below #[Value.ref b] s) (F0 m 43 ls []) := by
    intro n
    induction n with
    | zero =>
      intro  x0 x1 x2 x3 x4 x5 x6 x7 kc ks M H locs ls h
      exact False.elim h
    | succ n ih =>
      intro  x0 x1 x2 x3 x4 x5 x6 x7 kc ks M H locs ls h hl hR hS
      refine lv_iload hx hb dL_law_43 (lv_at hl 7 rfl) ?_
      refine lv_bipush (v := (28 : Int32)) hx hb dL_law_45 (by decide) ?_
      obtain ⟨ha, hb2⟩ := h
      refine lv_icmp_ge (tgt := 1015) hx hb dL_law_47 (by decide) (fun hc => ?_) (fun hc => ?_)
      · replace h := ha hc
        refine lv_iconst (v := (1 : Int32)) hx hb dL_law_1015 (by decide) ?_
        obtain ⟨hwc, hws, h⟩ := h
        refine va_forget (fun q hq => hS.2.2 q hq) ?_
        refine W.widen (k := 600000) (n := 7302250) hwc hws ?_
        exact lw_ret hx hb hr hlocks dL_law_1016
      · replace h := hb2 hc
        refine lv_aload_n hx hb dL_law_50 rfl (lv_at hl 0 rfl) ?_
        refine lv_iload hx hb dL_law_51 (lv_at hl 7 rfl) ?_
        obtain ⟨hc61, hc62, h⟩ := h
        refine k_calli0 (va_runS (As := [.ref x0, .int x7]) (rest := []) ⟨hx, hb, hml, hown, hts⟩ (c_L_cell l G _ _ _ x0 x7 h) (va_cwS 2 hts gL_law_L_cell rfl rfl rfl (by decide +kernel) ⟨Nat.le_of_ble_eq_true rfl, Nat.le_of_ble_eq_true rfl⟩) (k_preS hR hS hA hE) rfl rfl hl.1 rfl (lv_room (Nat.le_of_ble_eq_true rfl)) dL_law_53 ⟨hc61, hc62⟩) hR hS hA (fun r58 M59 H locs h hR hS => ?_)
        refine lv_istore (lv' := [(8, .int r58), (0, .ref x0), (1, .ref x1), (2, .ref x2), (3, .ref x3), (4, .ref x4), (5, .ref x5), (6, .ref x6), (7, .int x7)]) hx hb dL_law_56 hl (by decide) rfl (fun ls hl => ?_)
        refine lv_iload hx hb dL_law_58 (lv_at hl 0 rfl) ?_
        refine lv_bipush (v := (12 : Int32)) hx hb dL_law_60 (by decide) ?_
        obtain ⟨hc66, hc67, h⟩ := h
        refine k_calli0 (va_runS (As := [.int r58, .int (12 : Int32)]) (rest := []) ⟨hx, hb, hml, hown, hts⟩ (c_L_low l G _ _ _ r58 (12 : Int32) h) (va_cwS 2 hts gL_law_L_low rfl rfl rfl (by decide +kernel) ⟨Nat.le_of_ble_eq_true rfl, Nat.le_of_ble_eq_true rfl⟩) (k_preS hR hS hA hE) rfl rfl hl.1 rfl (lv_room (Nat.le_of_ble_eq_true rfl)) dL_law_62 ⟨hc66, hc67⟩) hR hS hA (fun r63 M64 H locs h hR hS => ?_)
        refine lv_istore (lv' := [(9, .int r63), (8, .int r58), (0, .ref x0), (1, .ref x1), (2, .ref x2), (3, .ref x3), (4, .ref x4), (5, .ref x5), (6, .ref x6), (7, .int x7)]) hx hb dL_law_65 hl (by decide) rfl (fun ls hl => ?_)
        refine lv_iload hx hb dL_law_67 (lv_at hl 1 rfl) ?_
        refine lv_iconst (v := (4 : Int32)) hx hb dL_law_69 (by decide) ?_
        refine lv_ishr hx hb dL_law_70 ?_
        refine lv_bipush (v := (8 : Int32)) hx hb dL_law_71 (by decide) ?_
        obtain ⟨hc71, hc72, h⟩ := h
        refine k_calli0 (va_runS (As := [.int (r58 >>> ((4 : Int32) &&& 31)), .int (8 : Int32)]) (rest := []) ⟨hx, hb, hml, hown, hts⟩ (c_L_low l G _ _ _ (r58 >>> ((4 : Int32) &&& 31)) (8 : Int32) h) (va_cwS 2 hts gL_law_L_low rfl rfl rfl (by decide +kernel) ⟨Nat.le_of_ble_eq_true rfl, Nat.le_of_ble_eq_true rfl⟩) (k_preS hR hS hA hE) rfl rfl hl.1 rfl (lv_room (Nat.le_of_ble_eq_true rfl)) dL_law_73 ⟨hc71, hc72⟩) hR hS hA (fun r68 M69 H locs h hR hS => ?_)
        refine lv_istore (lv' := [(10, .int r68), (9, .int r63), (8, .int r58), (0, .ref x0), (1, .ref x1), (2, .ref x2), (3, .ref x3), (4, .ref x4), (5, .ref x5), (6, .ref x6), (7, .int x7)]) hx hb dL_law_76 hl (by decide) rfl (fun ls hl => ?_)
        refine lv_iconst (v := (0 : Int32)) hx hb dL_law_78 (by decide) ?_
        refine lv_istore (lv' := [(11, .int (0 : Int32)), (10, .int r68), (9, .int r63), (8, .int r58), (0, .ref x0), (1, .ref x1), (2, .ref x2), (3, .ref x3), (4, .ref x4), (5, .ref x5), (6, .ref x6), (7, .int x7)]) hx hb dL_law_79 hl (by decide) rfl (fun ls hl => ?_)
        obtain ⟨k73, h⟩ := h
        exact L81 _ ih k73 _ _ _ _ _ _ _ _ _ _ _ _ _ _ _ _ _ _ h (lv_sub hl [4, 5, 6, 7, 8, 9, 10, 11, 3, 2, 1, 0] rfl) hR hS
  have hl := lv_entry ([.ref b]) (n := 18) (Nat.le_of_ble_eq_true rfl)
  rw [lg_entry_eq]
  generalize (lg_sl ([.ref b]) ++ List.replicate (18 - (lg_sl ([.ref b])).length) Slot.unset).toArray = ls at hl ⊢
  have hl : lv_has ls 18 [(0, .ref b)] := hl
  have hR0 := hR
  obtain ⟨hn3, hn4, h⟩ := h
  refine k_new (ci := 4) (fs := [.null, .null, .int 0, .null, .null, .null, .null, .null]) (C := RX3) (T := TX3) (N := 8) hx hb hts in_L_law_X3 tyX3 tyX3_ok hown hw1 hw2 hw3 hK hR hS hA rfl (fun j hj => by rcases (show j = 0 ∨ j = 1 ∨ j = 2 ∨ j = 3 ∨ j = 4 ∨ j = 5 ∨ j = 6 ∨ j = 7 by omega) with rfl | rfl | rfl | rfl | rfl | rfl | rfl | rfl <;> rfl) hn3 hn4 dL_law_0 (fun q1 H hq hR hS => ?_)
  replace h := h q1 _ hq rfl
  refine lv_dup hx hb dL_law_3 rfl ?_
  obtain ⟨mc5, ms6, hc10, hc11, h⟩ := h
  refine k_callv (va_runI (As := []) (rest := [.ref q1]) ⟨hx, hb, hml, hown, hts⟩ (c_X3_init l G mc5 ms6 _ _ _ q1 h) (cwI 0 hts gL_law_X3_init rfl rfl rfl hw3 hw4 hw5 rfl (by decide +kernel) ⟨Nat.le_of_ble_eq_true rfl, Nat.le_of_ble_eq_true rfl⟩) (k_preS hR hS hA hE) rfl rfl hl.1 rfl (lv_room (Nat.le_of_ble_eq_true rfl)) dL_law_4 ⟨hc10, hc11⟩) hR hS hA (fun M8 H locs h hR hS => ?_)
  refine lv_astore_n (lv' := [(1, .ref q1), (0, .ref b)]) hx hb dL_law_7 rfl hl (by decide) rfl (fun ls hl => ?_)
  refine lv_bipush (v := (16 : Int32)) hx hb dL_law_8 (by decide) ?_
  obtain ⟨N12, hn15, hn16, hn17, hn18, hn19, h⟩ := h
  refine k_newa (atype := .int) (ty := .int) (a0 := (N12, .inl (fun _ => 0))) hx hb hw6 rfl 0 rfl hK hR hS hA (fun _ => rfl) hn15 hn16 hn17 hn18 hn19 dL_law_10 (fun q13 H hq hR hS => ?_)
  replace h := h q13 _ hq rfl
  refine lv_astore_n (lv' := [(2, .ref q13), (1, .ref q1), (0, .ref b)]) hx hb dL_law_12 rfl hl (by decide) rfl (fun ls hl => ?_)
  refine lv_bipush (v := (34 : Int32)) hx hb dL_law_13 (by decide) ?_
  obtain ⟨N20, hn23, hn24, hn25, hn26, hn27, h⟩ := h
  refine k_newa (atype := .long) (ty := .long) (a0 := (N20, .inr (.inl (fun _ => 0)))) hx hb hw7 rfl 6 rfl hK hR hS hA (fun _ => rfl) hn23 hn24 hn25 hn26 hn27 dL_law_15 (fun q21 H hq hR hS => ?_)
  replace h := h q21 _ hq rfl
  refine lv_astore_n (lv' := [(3, .ref q21), (2, .ref q13), (1, .ref q1), (0, .ref b)]) hx hb dL_law_17 rfl hl (by decide) rfl (fun ls hl => ?_)
  refine lv_bipush (v := (17 : Int32)) hx hb dL_law_18 (by decide) ?_
  obtain ⟨N28, hn31, hn32, hn33, hn34, hn35, h⟩ := h
  refine k_newa (atype := .long) (ty := .long) (a0 := (N28, .inr (.inl (fun _ => 0)))) hx hb hw7 rfl 6 rfl hK hR hS hA (fun _ => rfl) hn31 hn32 hn33 hn34 hn35 dL_law_20 (fun q29 H hq hR hS => ?_)
  replace h := h q29 _ hq rfl
  refine lv_astore (lv' := [(4, .ref q29), (3, .ref q21), (2, .ref q13), (1, .ref q1), (0, .ref b)]) hx hb dL_law_22 hl (by decide) rfl (fun ls hl => ?_)
  refine lv_iconst (v := (2 : Int32)) hx hb dL_law_24 (by decide) ?_
  obtain ⟨N36, hn39, hn40, hn41, hn42, hn43, h⟩ := h
  refine k_newa (atype := .int) (ty := .int) (a0 := (N36, .inl (fun _ => 0))) hx hb hw6 rfl 0 rfl hK hR hS hA (fun _ => rfl) hn39 hn40 hn41 hn42 hn43 dL_law_25 (fun q37 H hq hR hS => ?_)
  replace h := h q37 _ hq rfl
  refine lv_astore (lv' := [(5, .ref q37), (4, .ref q29), (3, .ref q21), (2, .ref q13), (1, .ref q1), (0, .ref b)]) hx hb dL_law_27 hl (by decide) rfl (fun ls hl => ?_)
  refine lv_bipush (v := (40 : Int32)) hx hb dL_law_29 (by decide) ?_
  obtain ⟨N44, hn47, hn48, hn49, hn50, hn51, h⟩ := h
  refine k_newa (atype := .int) (ty := .int) (a0 := (N44, .inl (fun _ => 0))) hx hb hw6 rfl 0 rfl hK hR hS hA (fun _ => rfl) hn47 hn48 hn49 hn50 hn51 dL_law_31 (fun q45 H hq hR hS => ?_)
  replace h := h q45 _ hq rfl
  refine lv_astore (lv' := [(6, .ref q45), (5, .ref q37), (4, .ref q29), (3, .ref q21), (2, .ref q13), (1, .ref q1), (0, .ref b)]) hx hb dL_law_33 hl (by decide) rfl (fun ls hl => ?_)
  refine lv_aload_n hx hb dL_law_35 rfl (lv_at hl 4 rfl) ?_
  refine lv_iconst (v := (0 : Int32)) hx hb dL_law_36 (by decide) ?_
  refine lv_ldc (v := (65535 : Int32)) hx hb hown hw8 dL_law_37 ?_
  obtain ⟨n52, f53, hm55, hv56, h⟩ := h
  replace h := h _ rfl
  refine k_iast hx hb hK hR hS hm55 hv56 dL_law_39 (fun H locs hR hS => ?_)
  refine lv_iconst (v := (0 : Int32)) hx hb dL_law_40 (by decide) ?_
  refine lv_istore (lv' := [(7, .int (0 : Int32)), (6, .ref q45), (5, .ref q37), (4, .ref q29), (3, .ref q21), (2, .ref q13), (1, .ref q1), (0, .ref b)]) hx hb dL_law_41 hl (by decide) rfl (fun ls hl => ?_)
  obtain ⟨k57, h⟩ := h
  exact L43 k57 _ _ _ _ _ _ _ _ _ _ _ _ _ _ h (lv_sub hl [7, 6, 5, 4, 3, 2, 1, 0] rfl) hR hS
