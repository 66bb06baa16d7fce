/-! choices, and all expressions -/
section
variable {x z sz : Nat} {b : Nat → Nat}
/-- what the reference does of a choice once a fault is found: nothing -/
theorem bdIf1 {I Iz : Nat → Nat → Int32} (h : Bd x z I Iz) : (r_eats 2000 Iz z 12).bind (fun q93 => let u95 := q93.1; let I96 := q93.2; if u95 = 0 then ((r_fails I96 z 2).bind (fun q101 => let I103 := q101; (r_codes I103 z 3009).bind (fun q104 => let I106 := q104; some I106))) else ((r_codes I96 z 3009).bind (fun q98 => let I100 := q98; some I100))) = some Iz := by
  rw [h.eats, Option.bind_some]
  try dsimp only
  rw [if_pos rfl, h.fails, Option.bind_some]
  try dsimp only
  rw [h.codes]
  rfl
theorem bdIf2 {I Iz : Nat → Nat → Int32} {k : Nat} {v : Int32} (h : Bd x z I Iz) : (r_parse 2000 z (k + 3) 3 v Iz).bind (fun q90 => let I92 := q90; (r_eats 2000 I92 z 12).bind (fun q93 => let u95 := q93.1; let I96 := q93.2; if u95 = 0 then ((r_fails I96 z 2).bind (fun q101 => let I103 := q101; (r_codes I103 z 3009).bind (fun q104 => let I106 := q104; some I106))) else ((r_codes I96 z 3009).bind (fun q98 => let I100 := q98; some I100)))) = some Iz := by
  rw [(bd_parse h.ne).2.2 k v, Option.bind_some]
  exact bdIf1 h
theorem Choice_body {d kc kr : Nat} (hd : d ≤ 6) (hkr : 3 ≤ kr ∨ d = 6) (hT : d < 6 → Spec x z sz b 4 (d + 1) kc kr) (hS : d < 6 → Spec x z sz b 0 (d + 1) kc kr) : Spec x z sz b 3 d (kc + 1) (kr + 1) := by
  intro I Iz t a e m n h hm hn ht
  have ht := ht rfl
  obtain ⟨p1, p2, p3, p4, p5⟩ := h.tk
  have hae := p5 (by omega)
  have e0 : rtag 3 = 1 := rfl
  have tf : Nat.ble 4 3 = false := rfl
  rw [e0, rd_parse, r_parse, tf]
  rw [if_neg (show ¬ (3 : Nat) = 0 by decide), if_neg (show ¬ (3 : Nat) = 1 by decide), if_neg (show ¬ (3 : Nat) = 2 by decide), if_pos rfl]
  rw [if_neg (show ¬ (1 : Nat) = 0 by decide), if_pos rfl]
  unfold rd_readChoiceB r_readIfB
  rcases within_go h (by omega) (by omega) hd with ⟨hd6, t1, a1, e1, I1, Iz1, g1, g2, g3, g4, g5, g6, g7, g8⟩ | ⟨hd6, I1, Iz1, g1, g2, g3, g4, g5⟩
  case inr =>
    rw [g1, g2, Option.bind_some, Option.bind_some]
    try dsimp only
    rw [if_pos rfl, if_pos rfl]
    exact ⟨_, _, _, rfl, rfl, g4, g5, Or.inl ⟨rfl, g3⟩⟩
  obtain ⟨kr', rfl⟩ : ∃ k, kr = k + 3 := ⟨kr - 3, by omega⟩
  have n3 : ndp 3 d = 8 * (6 - d) + 1 := rfl
  have n4 : ndp 4 (d + 1) = 8 * (6 - (d + 1)) + 8 := rfl
  have n0 : ndp 0 (d + 1) = 8 * (6 - (d + 1)) + 4 := rfl
  rw [g1, g2, Option.bind_some, Option.bind_some]
  try dsimp only
  rw [if_neg (show ¬ (1 : Int32) = 0 by decide), if_neg (show ¬ (1 : Int32) = 0 by decide), nI_1]
  -- the truth
  obtain ⟨r, I2, Iz2, k1, k2, k3, k4, k5⟩ := hT hd6 I1 Iz1 t1 a1 e1 m n g3 (by omega) (by omega) (fun cc => absurd cc (by decide))
  have k2 : r_parse 2000 z (kr' + 3) 6 (nI (d + 1)) Iz1 = _ := k2
  rw [k1, k2, Option.bind_some, Option.bind_some]
  try dsimp only
  have f2 := g7.tr k3
  have f2z := g8.tr k4
  rcases k5 with ⟨k5, k6⟩ | ⟨k5, t2, a2, e2, m2, n2, β, k6, k7, k8, k9, k10, k11, k12⟩
  · rw [k5, if_pos rfl, k6.eats, Option.bind_some]
    try dsimp only
    rw [if_pos rfl, k6.fails, Option.bind_some]
    try dsimp only
    rw [(bd_parse k6.ne).2.2 kr' (nI (d + 1)), Option.bind_some]
    try dsimp only
    rw [k6.eats, Option.bind_some]
    try dsimp only
    rw [if_pos rfl, k6.fails, Option.bind_some]
    try dsimp only
    rw [(bd_parse k6.ne).2.2 kr' (nI (d + 1)), Option.bind_some]
    refine ⟨_, _, _, rfl, bdIf1 k6, f2, f2z, Or.inl ⟨rfl, k6⟩⟩
  have k12 := k12 rfl
  obtain ⟨q1, q2, q3, q4, q5⟩ := k6.tk
  obtain ⟨I3, w1, w2, w3, w4, w5⟩ := em_go (op := 11) (v := 0) k6 (by omega) (by omega) (by omega)
  have w1 : rd_emit I2 x 11 0 = _ := w1
  rw [k5, if_neg (show ¬ (1 : Int32) = 0 by decide), w1, Option.bind_some]
  try dsimp only
  have f3 := f2.tr w3
  rcases expect_go (u := 30) w2 (by omega) (by decide) (by decide) with ⟨c1, t4, a4, e4, I4, Iz4, j1, j2, j3, j4, j5, j6, j7, j8⟩ | ⟨c1, I4, Iz4, j1, j2, j3, j4, j5, j6, j7⟩
  case inr =>
    have j1 : rd_expect 2000 I3 x 214 = _ := j1
    have j2 : r_eats 2000 Iz2 z 10 = _ := j2
    rw [j1, j2, Option.bind_some, Option.bind_some]
    try dsimp only
    rw [if_pos rfl, if_pos rfl, j3, Option.bind_some]
    try dsimp only
    rw [(bd_parse j4.ne).2.2 kr' (nI (d + 1)), Option.bind_some]
    try dsimp only
    rw [j4.eats, Option.bind_some]
    try dsimp only
    rw [if_pos rfl, j4.fails, Option.bind_some]
    try dsimp only
    rw [(bd_parse j4.ne).2.2 kr' (nI (d + 1)), Option.bind_some]
    refine ⟨_, _, _, rfl, bdIf1 j4, f3.tr j5, f2z.tr j6, Or.inl ⟨rfl, j4⟩⟩
  have j1 : rd_expect 2000 I3 x 214 = _ := j1
  have j2 : r_eats 2000 Iz2 z 10 = _ := j2
  rw [j1, j2, Option.bind_some, Option.bind_some]
  try dsimp only
  rw [if_neg (show ¬ (1 : Int32) = 0 by decide), if_neg (show ¬ (1 : Int32) = 0 by decide)]
  have f4 := f3.tr j7
  have f4z := f2z.tr j8
  have q6 := q5 (by omega)
  -- then
  obtain ⟨r5, I5, Iz5, l1, l2, l3, l4, l5⟩ := hS hd6 I4 Iz4 t4 a4 e4 (m2 + 1) n2 j3 (by omega) (by omega) (fun cc => absurd cc (by decide))
  have l2 : r_parse 2000 z (kr' + 3) 3 (nI (d + 1)) Iz4 = _ := l2
  rw [l1, l2, Option.bind_some, Option.bind_some]
  try dsimp only
  have f5 := f4.tr l3
  have f5z := f4z.tr l4
  rcases l5 with ⟨l5, l6⟩ | ⟨l5, t5, a5, e5, m5, n5, φ, l6, l7, l8, l9, l10, l11, l12⟩
  · rw [l5, if_pos rfl, l6.eats, Option.bind_some]
    try dsimp only
    rw [if_pos rfl, l6.fails, Option.bind_some]
    try dsimp only
    rw [(bd_parse l6.ne).2.2 kr' (nI (d + 1)), Option.bind_some]
    refine ⟨_, _, _, rfl, bdIf1 l6, f5, f5z, Or.inl ⟨rfl, l6⟩⟩
  obtain ⟨s1, s2, s3, s4, s5⟩ := l6.tk
  obtain ⟨I6, u1, u2, u3, u4, u5⟩ := em_go (op := 12) (v := 0) l6 (by omega) (by omega) (by omega)
  have u1 : rd_emit I5 x 12 0 = _ := u1
  obtain ⟨I7, y1, y2, y3, y4, y5⟩ := ai_go (op := 11) (k := m2) u2 (by omega) (by omega) (by decide)
  have y1 : rd_aimHere I6 x (nI m2) 11 = _ := y1
  rw [l5, if_neg (show ¬ (1 : Int32) = 0 by decide), u1, Option.bind_some]
  try dsimp only
  rw [y1, Option.bind_some]
  try dsimp only
  have f7 := (f5.tr u3).tr y3
  rcases expect_go (u := 31) y2 (by omega) (by decide) (by decide) with ⟨c2, t8, a8, e8, I8, Iz8, v1, v2, v3, v4, v5, v6, v7, v8⟩ | ⟨c2, I8, Iz8, v1, v2, v3, v4, v5, v6, v7⟩
  case inr =>
    have v1 : rd_expect 2000 I7 x 215 = _ := v1
    have v2 : r_eats 2000 Iz5 z 11 = _ := v2
    rw [v1, v2, Option.bind_some, Option.bind_some]
    try dsimp only
    rw [if_pos rfl, if_pos rfl, v3, Option.bind_some]
    try dsimp only
    rw [(bd_parse v4.ne).2.2 kr' (nI (d + 1)), Option.bind_some]
    refine ⟨_, _, _, rfl, bdIf1 v4, f7.tr v5, f5z.tr v6, Or.inl ⟨rfl, v4⟩⟩
  have v1 : rd_expect 2000 I7 x 215 = _ := v1
  have v2 : r_eats 2000 Iz5 z 11 = _ := v2
  rw [v1, v2, Option.bind_some, Option.bind_some]
  try dsimp only
  rw [if_neg (show ¬ (1 : Int32) = 0 by decide), if_neg (show ¬ (1 : Int32) = 0 by decide)]
  have f8 := f7.tr v7
  have f8z := f5z.tr v8
  have s6 := s5 (by omega)
  -- else
  obtain ⟨r9, I9, Iz9, b1, b2', b3, b4, b5⟩ := hS hd6 I8 Iz8 t8 a8 e8 (m5 + 1) n5 v3 (by omega) (by omega) (fun cc => absurd cc (by decide))
  have b2' : r_parse 2000 z (kr' + 3) 3 (nI (d + 1)) Iz8 = _ := b2'
  rw [b1, b2', Option.bind_some, Option.bind_some]
  try dsimp only
  have f9 := f8.tr b3
  have f9z := f8z.tr b4
  rcases b5 with ⟨b5, b6⟩ | ⟨b5, t9, a9, e9, m9, n9, ψ, b6, b7, b8, b9, b10, b11, b12⟩
  · rw [b5, if_pos rfl]
    exact ⟨_, _, _, rfl, bdIf1 b6, f9, f9z, Or.inl ⟨rfl, b6⟩⟩
  obtain ⟨o1, o2, o3, o4, o5⟩ := b6.tk
  obtain ⟨Ia, d1, d2, d3, d4, d5⟩ := ai_go (op := 12) (k := m5) b6 (by omega) (by omega) (by decide)
  have d1 : rd_aimHere I9 x (nI m5) 12 = _ := d1
  rw [b5, if_neg (show ¬ (1 : Int32) = 0 by decide), d1, Option.bind_some]
  try dsimp only
  have fa := f9.tr d3
  rcases expect_go (u := 32) d2 (by omega) (by decide) (by decide) with ⟨c3, tb, ab, eb, Ib, Izb, x1, x2, x3, x4, x5, x6, x7, x8⟩ | ⟨c3, Ib, Izb, x1, x2, x3, x4, x5, x6, x7⟩
  case inr =>
    have x1 : rd_expect 2000 Ia x 216 = _ := x1
    have x2 : r_eats 2000 Iz9 z 12 = _ := x2
    rw [x1, x2, Option.bind_some, Option.bind_some]
    try dsimp only
    rw [isb_out (Or.inl rfl), if_pos rfl, x3, Option.bind_some]
    try dsimp only
    rw [x4.codes]
    exact ⟨_, _, _, rfl, rfl, fa.tr x5, f9z.tr x6, Or.inl ⟨rfl, x4⟩⟩
  have x1 : rd_expect 2000 Ia x 216 = _ := x1
  have x2 : r_eats 2000 Iz9 z 12 = _ := x2
  obtain ⟨o6, o7, o8, o9, o10⟩ := x3.tk
  have o11 := o5 (by omega)
  obtain ⟨Izc, h1, h2, h3, h4, h5⟩ := co_go (c := 3009) x3 (by omega)
  rw [x1, x2, Option.bind_some, Option.bind_some]
  try dsimp only
  rw [isb_out (Or.inr rfl), if_neg (show ¬ (1 : Int32) = 0 by decide), h1]
  -- rows
  have R1 : ∀ k, k < m2 → Ib (x + 3) k = I2 (x + 3) k := fun k hk => by
    rw [x5, d5 k (by omega), b10 k (by omega), v5, y5 k (by omega), u5 k (by omega), l10 k (by omega), j5, w5 k (by omega)]
  have R2 : Ib (x + 3) m2 = nI (16 * (m5 + 1) + 11) := by
    rw [x5, d5 m2 (by omega), b10 m2 (by omega), v5]
    exact y4
  have R3 : ∀ k, m2 + 1 ≤ k → k < m5 → Ib (x + 3) k = I5 (x + 3) k := fun k h1 h2 => by
    rw [x5, d5 k (by omega), b10 k (by omega), v5, y5 k (by omega), u5 k (by omega)]
  have R4 : Ib (x + 3) m5 = nI (16 * m9 + 12) := by
    rw [x5]
    exact d4
  have R5 : ∀ k, m5 + 1 ≤ k → Ib (x + 3) k = I9 (x + 3) k := fun k h1 => by
    rw [x5, d5 k (by omega)]
  have Z1 : ∀ k, k < n9 → Izc (z + 4) (397 + k) = Iz9 (z + 4) (397 + k) := fun k hk => by
    rw [h5 _ (by omega) (by omega), x6]
  have Z2 : ∀ k, k < n5 → Izc (z + 4) (397 + k) = Iz5 (z + 4) (397 + k) := fun k hk => by
    rw [Z1 k (by omega), b11 k hk, v6]
  have Z3 : ∀ k, k < n2 → Izc (z + 4) (397 + k) = Iz2 (z + 4) (397 + k) := fun k hk => by
    rw [Z2 k (by omega), l11 k hk, j6]
  refine ⟨_, _, _, rfl, rfl, fa.tr x7, (f9z.tr x8).tr h3, Or.inr ⟨rfl, tb, ab, eb, m9, n9 + 1, fun f => if β f = 0 then ψ f else φ f, h2, by omega, ?_, ?_, ?_, ?_, fun hh => by cases hh⟩⟩
  · exact segC_if (k8.keep (nd1 := ndp 4 (d + 1)) (fun k h1 h2 => R1 k h2) (Nat.le_refl _)) (l8.keep (nd1 := ndp 0 (d + 1)) (fun k h1 h2 => R3 k h1 h2) (Nat.le_refl _)) (b8.keep (nd1 := ndp 0 (d + 1)) (fun k h1 h2 => R5 k h1) (Nat.le_refl _)) R2 R4 (by omega) (by omega) (by omega) (by omega)
  · have ef : (fun f => if β f = 0 then ψ f else φ f) = (fun f => if β f = 1 then φ f else ψ f) := by
      funext f
      rcases k12 f with hh | hh
      · rw [hh, if_pos rfl, if_neg (show ¬ (0 : Int32) = 1 by decide)]
      · rw [hh, if_neg (show ¬ (1 : Int32) = 0 by decide), if_pos rfl]
    rw [ef]
    exact segR_if (k9.keep (fun k h1 h2 => Z3 k h2)) (l9.keep (fun k h1 h2 => Z2 k h2)) (b9.keep (fun k h1 h2 => Z1 k h2)) h4
  · intro k hk
    show Ib (x + 3) k = I (x + 3) k
    rw [R1 k (by omega), k10 k hk, g5]
  · intro k hk
    show Izc (z + 4) (397 + k) = Iz (z + 4) (397 + k)
    rw [Z3 k (by omega), k11 k hk, g6]
/-- both parsers read alike -/
theorem spec_all : ∀ (N tag d kc kr : Nat), tag < 7 → d ≤ 6 → ndp tag d ≤ N → ndp tag d ≤ kc → ndp tag d ≤ kr → Spec x z sz b tag d kc kr := by
  intro N
  induction N with
  | zero =>
    intro tag d kc kr ht hd hN
    exfalso
    have : ∀ tag, tag < 7 → 1 ≤ ([4, 3, 2, 1, 8, 7, 6] : List Nat).getD tag 0 := by decide
    have := this tag ht
    unfold ndp at hN
    omega
  | succ N ih =>
    intro tag d kc kr ht hd hN hkc hkr
    have e0 : ∀ d, ndp 0 d = 8 * (6 - d) + 4 := fun _ => rfl
    have e1 : ∀ d, ndp 1 d = 8 * (6 - d) + 3 := fun _ => rfl
    have e2 : ∀ d, ndp 2 d = 8 * (6 - d) + 2 := fun _ => rfl
    have e3 : ∀ d, ndp 3 d = 8 * (6 - d) + 1 := fun _ => rfl
    have e4 : ∀ d, ndp 4 d = 8 * (6 - d) + 8 := fun _ => rfl
    have e5 : ∀ d, ndp 5 d = 8 * (6 - d) + 7 := fun _ => rfl
    have e6 : ∀ d, ndp 6 d = 8 * (6 - d) + 6 := fun _ => rfl
    have hk : 1 ≤ ndp tag d := by
      have : ∀ tag, tag < 7 → 1 ≤ ([4, 3, 2, 1, 8, 7, 6] : List Nat).getD tag 0 := by decide
      have := this tag ht
      unfold ndp
      omega
    obtain ⟨kc, rfl⟩ : ∃ k, kc = k + 1 := ⟨kc - 1, by omega⟩
    obtain ⟨kr, rfl⟩ : ∃ k, kr = k + 1 := ⟨kr - 1, by omega⟩
    match tag, ht with
    | 0, _ =>
      rw [e0] at hN hkc hkr
      exact Sum_body hd (ih 1 d kc kr (by decide) hd (by rw [e1]; omega) (by rw [e1]; omega) (by rw [e1]; omega))
    | 1, _ =>
      rw [e1] at hN hkc hkr
      exact Term_body hd (ih 2 d kc kr (by decide) hd (by rw [e2]; omega) (by rw [e2]; omega) (by rw [e2]; omega))
    | 2, _ =>
      rw [e2] at hN hkc hkr
      exact Atom_body hd (fun h6 => ih 0 (d + 1) kc kr (by decide) (by omega) (by rw [e0]; omega) (by rw [e0]; omega) (by rw [e0]; omega)) (ih 3 d kc kr (by decide) hd (by rw [e3]; omega) (by rw [e3]; omega) (by rw [e3]; omega))
    | 3, _ =>
      rw [e3] at hN hkc hkr
      exact Choice_body hd (by omega) (fun h6 => ih 4 (d + 1) kc kr (by decide) (by omega) (by rw [e4]; omega) (by rw [e4]; omega) (by rw [e4]; omega)) (fun h6 => ih 0 (d + 1) kc kr (by decide) (by omega) (by rw [e0]; omega) (by rw [e0]; omega) (by rw [e0]; omega))
    | 4, _ =>
      rw [e4] at hN hkc hkr
      exact Truth_body hd (ih 5 d kc kr (by decide) hd (by rw [e5]; omega) (by rw [e5]; omega) (by rw [e5]; omega))
    | 5, _ =>
      rw [e5] at hN hkc hkr
      exact Both_body hd (ih 6 d kc kr (by decide) hd (by rw [e6]; omega) (by rw [e6]; omega) (by rw [e6]; omega))
    | 6, _ =>
      rw [e6] at hN hkc hkr
      obtain ⟨kc, rfl⟩ : ∃ k, kc = k + 1 := ⟨kc - 1, by omega⟩
      exact Unit_body hd (by omega) (ih 0 d (kc + 1) kr (by decide) hd (by rw [e0]; omega) (by rw [e0]; omega) (by rw [e0]; omega)) (ih 0 d kc kr (by decide) hd (by rw [e0]; omega) (by rw [e0]; omega) (by rw [e0]; omega)) (fun h6 => ih 6 (d + 1) (kc + 1) kr (by decide) (by omega) (by rw [e6]; omega) (by rw [e6]; omega) (by rw [e6]; omega)) (fun h6 => ih 4 (d + 1) (kc + 1) kr (by decide) (by omega) (by rw [e4]; omega) (by rw [e4]; omega) (by rw [e4]; omega))
/-- a law's text -/
theorem sum_is {I Iz : Nat → Nat → Int32} {t a e n : Nat} (h : Ps x z sz b I Iz t a e 0 n) (hn : n ≤ a) : ∃ r I1 Iz1, rd_readSumB_f 2000 I x 0 = some (r, I1) ∧ r_readSumB_f 2000 Iz z 0 = some Iz1 ∧ Out x z sz b I Iz (a + 1) a 0 n 0 n 52 false r I1 Iz1 :=
  spec_all 52 0 0 70 70 (by decide) (by decide) (by decide) (by decide) (by decide) I Iz t a e 0 n h (by omega) hn (fun cc => absurd cc (by decide))
end
