/-! units, choices, and all expressions -/
section
variable {x z sz : Nat} {b : Nat → Nat}
theorem cmp_bit {op : Nat} (ho : op = 5 ∨ op = 6 ∨ op = 7) (p q : Int32) : w_join (nI op) p q = 0 ∨ w_join (nI op) p q = 1 := by
  rcases ho with rfl | rfl | rfl
  · rw [show nI 5 = 5 from rfl, jb_5]
    unfold r_between
    rw [if_pos rfl]
    split
    · exact Or.inr rfl
    · exact Or.inl rfl
  · rw [show nI 6 = 6 from rfl, jb_6]
    unfold r_between
    rw [if_neg (show ¬ (3004 : Int32) = 3003 by decide), if_pos rfl]
    split
    · exact Or.inl rfl
    · exact Or.inr rfl
  · rw [show nI 7 = 7 from rfl, jb_7]
    unfold r_between
    rw [if_neg (show ¬ (3005 : Int32) = 3003 by decide), if_neg (show ¬ (3005 : Int32) = 3004 by decide), if_pos rfl]
    split
    · exact Or.inl rfl
    · exact Or.inr rfl
theorem Unit_body {d kc kr : Nat} (hd : d ≤ 6) (hkr : 3 ≤ kr) (hS : Spec x z sz b 0 d (kc + 1) kr) (hS2 : Spec x z sz b 0 d kc kr) (hU : d < 6 → Spec x z sz b 6 (d + 1) (kc + 1) kr) (hT : d < 6 → Spec x z sz b 4 (d + 1) (kc + 1) kr) : Spec x z sz b 6 d (kc + 1 + 1) (kr + 1) := by
  intro I Iz t a e m n h hm hn _
  obtain ⟨p1, p2, p3, p4, p5⟩ := h.tk
  obtain ⟨kr', rfl⟩ : ∃ k, kr = k + 3 := ⟨kr - 3, by omega⟩
  have n6 : ndp 6 d = 8 * (6 - d) + 6 := rfl
  have n0 : ndp 0 d = 8 * (6 - d) + 4 := rfl
  have e0 : rtag 6 = 4 := rfl
  have tf : Nat.ble 4 6 = true := rfl
  rw [e0, rd_parse, r_parse, tf]
  rw [if_neg (show ¬ (6 : Nat) = 0 by decide), if_neg (show ¬ (6 : Nat) = 1 by decide), if_neg (show ¬ (6 : Nat) = 2 by decide), if_neg (show ¬ (6 : Nat) = 3 by decide), if_neg (show ¬ (6 : Nat) = 4 by decide), if_neg (show ¬ (6 : Nat) = 5 by decide), if_pos rfl]
  rw [if_neg (show ¬ (4 : Nat) = 0 by decide), if_neg (show ¬ (4 : Nat) = 1 by decide), if_neg (show ¬ (4 : Nat) = 2 by decide), if_neg (show ¬ (4 : Nat) = 3 by decide), if_pos rfl]
  unfold rd_readUnitB r_readUnitB
  by_cases c1 : t = 33
  · have hae := p5 (by omega)
    rw [if_pos (show I (x + 2) 6 = 217 from h.isc c1), show r_is Iz z 19 = 1 from h.isr (u := 33) (by decide) c1, if_neg (show ¬ (1 : Int32) = 0 by decide)]
    rcases within_go h (by omega) (by omega) hd with ⟨hd6, t1, a1, e1, I1, Iz1, g1, g2, g3, g4, g5, g6, g7, g8⟩ | ⟨hd6, I1, Iz1, g1, g2, g3, g4, g5⟩
    · obtain ⟨r, I2, Iz2, k1, k2, k3, k4, k5⟩ := hU hd6 I1 Iz1 t1 a1 e1 m n g3 (by omega) (by omega) (fun cc => absurd cc (by decide))
      have k2 : r_parse 2000 z (kr' + 3) 4 (nI (d + 1)) Iz1 = _ := k2
      rw [g1, g2, Option.bind_some, Option.bind_some]
      try dsimp only
      rw [if_neg (show ¬ (1 : Int32) = 0 by decide), if_neg (show ¬ (1 : Int32) = 0 by decide), nI_1, k1, k2, Option.bind_some, Option.bind_some]
      try dsimp only
      rcases k5 with ⟨k5, k6⟩ | ⟨k5, t2, a2, e2, m2, n2, φ, k6, k7, k8, k9, k10, k11, k12⟩
      · obtain ⟨u, I3, q1, q2, q3⟩ := k6.emit (op := 10) (v := 0)
        rw [k5, if_pos rfl, q1, k6.codes]
        exact ⟨_, _, _, rfl, rfl, (g7.tr k3).tr q3, g8.tr k4, Or.inl ⟨rfl, q2⟩⟩
      · obtain ⟨q1, q2, q3, q4, q5⟩ := k6.tk
        obtain ⟨I3, w1, w2, w3, w4, w5⟩ := em_go (op := 10) (v := 0) k6 (by omega) (by omega) (by omega)
        obtain ⟨Iz3, v1, v2, v3, v4, v5⟩ := co_go (c := 3006) w2 (by omega)
        have w1 : rd_emit I2 x 10 0 = _ := w1
        rw [k5, if_neg (show ¬ (1 : Int32) = 0 by decide), w1, v1]
        have k12 := k12 rfl
        have n7 : ndp 6 (d + 1) = 8 * (6 - (d + 1)) + 6 := rfl
        refine ⟨_, _, _, rfl, rfl, (g7.tr k3).tr w3, (g8.tr k4).tr v3, Or.inr ⟨rfl, t2, a2, e2, m2 + 1, n2 + 1, fun f => if φ f = 0 then 1 else 0, v2, by omega, ?_, ?_, ?_, ?_, fun _ f => ?_⟩⟩
        · exact segC_not (k8.keep (fun k h1 h2 => w5 k (by omega)) (by omega)) w4
        · have ef : (fun f => if φ f = 0 then (1 : Int32) else 0) = (fun f => 1 - φ f) := by
            funext f
            rcases k12 f with hh | hh
            · rw [hh]; decide
            · rw [hh]; decide
          rw [ef]
          exact segR_not (k9.keep (fun k h1 h2 => v5 _ (by omega) (by omega))) v4
        · intro k hk
          show I3 (x + 3) k = I (x + 3) k
          rw [w5 k (by omega), k10 k hk, g5]
        · intro k hk
          show Iz3 (z + 4) (397 + k) = Iz (z + 4) (397 + k)
          rw [v5 _ (by omega) (by omega), k11 k hk, g6]
        · show (if φ f = 0 then (1 : Int32) else 0) = 0 ∨ (if φ f = 0 then (1 : Int32) else 0) = 1
          split
          · exact Or.inr rfl
          · exact Or.inl rfl
    · obtain ⟨u, I3, q1, q2, q3⟩ := g3.emit (op := 10) (v := 0)
      rw [g1, g2, Option.bind_some, Option.bind_some]
      try dsimp only
      rw [if_pos rfl, if_pos rfl, q1]
      exact ⟨_, _, _, rfl, rfl, g4.tr q3, g5, Or.inl ⟨rfl, q2⟩⟩
  rw [if_neg (show ¬ I (x + 2) 6 = 217 from h.nsc (u := 33) (by decide) c1), show r_is Iz z 19 = 0 from h.nsr (u := 33) (by decide) c1, if_pos rfl]
  by_cases c2 : t = 11
  · rw [if_pos (show I (x + 2) 6 = 91 from h.isc c2), show r_is Iz z 37 = 1 from h.isr (u := 11) (by decide) c2, if_neg (show ¬ (1 : Int32) = 0 by decide)]
    rcases encl_go (tag := 4) (u := 12) (nd := ndp 6 d) h hm hn (by omega) hd (by decide) (by decide) hT (fun hh => by have : ndp 4 (d + 1) = 8 * (6 - (d + 1)) + 8 := rfl; omega) with ⟨I1, Iz1, g1, g2, g3⟩ | ⟨I1, Iz1, g1, g2, r, I2, Iz2, g3, g4, g5⟩
    · rw [g1, g2, Option.bind_some, Option.bind_some]
      try dsimp only
      rw [if_pos rfl, if_pos rfl]
      exact ⟨_, _, _, rfl, rfl, g3⟩
    · have g4 : r_parse 2000 z (kr' + 3) 6 (nI d + 1) Iz1 = _ := g4
      rw [g1, g2, Option.bind_some, Option.bind_some]
      try dsimp only
      rw [if_neg (show ¬ (1 : Int32) = 0 by decide), if_neg (show ¬ (1 : Int32) = 0 by decide), g3, g4, Option.bind_some, Option.bind_some]
      try dsimp only
      rcases g5 with ⟨g5, g6, g7⟩ | ⟨g5, ⟨I3, Iz3, g6, g7, g8⟩ | ⟨I3, Iz3, g6, g7, g8, g9⟩⟩
      · rw [g5, if_pos rfl, g6.eats, Option.bind_some]
        try dsimp only
        rw [if_pos rfl, g6.fails]
        exact ⟨_, _, _, rfl, rfl, g7⟩
      · have g6 : rd_expect 2000 I2 x 93 = _ := g6
        have g7 : r_eats 2000 Iz2 z 38 = _ := g7
        rw [g5, if_neg (show ¬ (1 : Int32) = 0 by decide), g6, g7, Option.bind_some, Option.bind_some]
        try dsimp only
        rw [if_neg (show ¬ (1 : Int32) = 0 by decide), if_neg (show ¬ (1 : Int32) = 0 by decide)]
        exact ⟨_, _, _, rfl, rfl, g8⟩
      · have g6 : rd_expect 2000 I2 x 93 = _ := g6
        have g7 : r_eats 2000 Iz2 z 38 = _ := g7
        rw [g5, if_neg (show ¬ (1 : Int32) = 0 by decide), g6, g7, Option.bind_some, Option.bind_some]
        try dsimp only
        rw [if_pos rfl, if_pos rfl, g8]
        exact ⟨_, _, _, rfl, rfl, g9⟩
  rw [if_neg (show ¬ I (x + 2) 6 = 91 from h.nsc (u := 11) (by decide) c2), show r_is Iz z 37 = 0 from h.nsr (u := 11) (by decide) c2, if_pos rfl]
  obtain ⟨r, I1, Iz1, g1, g2, g3, g4, g5⟩ := hS I Iz t a e m n h hm hn (fun cc => absurd cc (by decide))
  have g2 : r_parse 2000 z (kr' + 3) 3 (nI d) Iz = _ := g2
  rw [g1, g2, Option.bind_some, Option.bind_some]
  try dsimp only
  rcases g5 with ⟨g5, g6⟩ | ⟨g5, t1, a1, e1, m1, n1, φ, g6, g7, g8, g9, g10, g11, g12⟩
  · rw [g5, if_pos rfl, g6.is, if_pos rfl, g6.is, if_pos rfl, if_pos rfl, if_pos rfl, g6.is, if_pos rfl, g6.fails, Option.bind_some]
    try dsimp only
    rw [(bd_parse g6.ne).2.2 kr' (nI d), Option.bind_some]
    try dsimp only
    rw [g6.codes]
    exact ⟨_, _, _, rfl, rfl, g3, g4, Or.inl ⟨rfl, g6⟩⟩
  rw [g5, if_neg (show ¬ (1 : Int32) = 0 by decide), rd_parse]
  rw [if_neg (show ¬ (7 : Nat) = 0 by decide), if_neg (show ¬ (7 : Nat) = 1 by decide), if_neg (show ¬ (7 : Nat) = 2 by decide), if_neg (show ¬ (7 : Nat) = 3 by decide), if_neg (show ¬ (7 : Nat) = 4 by decide), if_neg (show ¬ (7 : Nat) = 5 by decide), if_neg (show ¬ (7 : Nat) = 6 by decide)]
  unfold rd_readComparisonB
  obtain ⟨q1, q2, q3, q4, q5⟩ := g6.tk
  have bin : ∀ (op : Nat) (c : Int32), (op = 5 ∨ op = 6 ∨ op = 7) → (∀ p q, w_join (nI op) p q = r_between c p q) → (3000 ≤ c ∧ c ≠ 3006 ∧ c ≠ 3009) → t1 ≠ 3 ∧ t1 ≠ 0 → ∃ I2 Iz2, rd_takeToken 2000 I1 x = some I2 ∧ r_nextToken 2000 Iz1 z = some Iz2 ∧ ∃ r I3 Iz3, rd_parse 2000 x kc 0 (nI d) I2 = some (r, I3) ∧ r_parse 2000 z (kr' + 3) 3 (nI d) Iz2 = some Iz3 ∧ ∃ u I4 Iz4, rd_emit I3 x (nI op) 0 = some (u, I4) ∧ r_codes Iz3 z c = some Iz4 ∧ (r = 0 ∨ r = 1) ∧ Out x z sz b I Iz (a + 1) a m n m n (ndp 6 d) true r I4 Iz4 := fun op c ho hj hc ht => by
    obtain ⟨I2, Iz2, i1, i2, r, I3, Iz3, i3, i4, u, I4, Iz4, i5, i6, i7⟩ := bin_go (op := op) (c := c) (tr := true) (nd := ndp 6 d) hS2 g6 ht (by decide) (by omega) (by omega) g8 g9 (by omega) hj hc (by omega) (by omega) (fun _ ψ _ f => cmp_bit ho _ _) (by omega) (by omega)
    exact ⟨I2, Iz2, i1, i2, r, I3, Iz3, i3, i4, u, I4, Iz4, i5, i6, i7.r01, i7.then g3 g4 rfl rfl g10 g11 (by omega)⟩
  by_cases c3 : t1 = 14
  · obtain ⟨I2, Iz2, i1, i2, r, I3, Iz3, i3, i4, u, I4, Iz4, i5, i6, i7, i8⟩ := bin 6 3004 (by decide) jb_6 (by decide) (by omega)
    have i5 : rd_emit I3 x 6 0 = _ := i5
    rw [if_pos (show I1 (x + 2) 6 = 60 from g6.isc c3), i1, Option.bind_some]
    try dsimp only
    rw [i3, Option.bind_some]
    try dsimp only
    rw [i5, Option.bind_some]
    try dsimp only
    rw [isb_out i7, Option.bind_some]
    try dsimp only
    rw [show r_is Iz1 z 39 = 0 from g6.nsr (u := 13) (by decide) (by omega), if_pos rfl, show r_is Iz1 z 40 = 1 from g6.isr (u := 14) (by decide) c3, if_neg (show ¬ (1 : Int32) = 0 by decide), if_pos rfl, if_neg (show ¬ (1 : Int32) = 0 by decide), i2, Option.bind_some]
    try dsimp only
    rw [i4, Option.bind_some]
    try dsimp only
    rw [i6]
    rcases i7 with rfl | rfl
    · exact ⟨_, _, _, rfl, rfl, i8⟩
    · exact ⟨_, _, _, rfl, rfl, i8⟩
  rw [if_neg (show ¬ I1 (x + 2) 6 = 60 from g6.nsc (u := 14) (by decide) c3), show r_is Iz1 z 40 = 0 from g6.nsr (u := 14) (by decide) c3]
  by_cases c4 : t1 = 13
  · obtain ⟨I2, Iz2, i1, i2, r, I3, Iz3, i3, i4, u, I4, Iz4, i5, i6, i7, i8⟩ := bin 5 3003 (by decide) jb_5 (by decide) (by omega)
    have i5 : rd_emit I3 x 5 0 = _ := i5
    rw [if_pos (show I1 (x + 2) 6 = 61 from g6.isc c4), i1, Option.bind_some]
    try dsimp only
    rw [i3, Option.bind_some]
    try dsimp only
    rw [i5, Option.bind_some]
    try dsimp only
    rw [isb_out i7, Option.bind_some]
    try dsimp only
    rw [show r_is Iz1 z 39 = 1 from g6.isr (u := 13) (by decide) c4, if_neg (show ¬ (1 : Int32) = 0 by decide), if_neg (show ¬ (1 : Int32) = 0 by decide), i2, Option.bind_some]
    try dsimp only
    rw [i4, Option.bind_some]
    try dsimp only
    rw [i6]
    rcases i7 with rfl | rfl
    · exact ⟨_, _, _, rfl, rfl, i8⟩
    · exact ⟨_, _, _, rfl, rfl, i8⟩
  rw [if_neg (show ¬ I1 (x + 2) 6 = 61 from g6.nsc (u := 13) (by decide) c4), show r_is Iz1 z 39 = 0 from g6.nsr (u := 13) (by decide) c4, if_pos rfl, if_pos rfl, if_pos rfl, if_pos rfl]
  by_cases c5 : t1 = 15
  · obtain ⟨I2, Iz2, i1, i2, r, I3, Iz3, i3, i4, u, I4, Iz4, i5, i6, i7, i8⟩ := bin 7 3005 (by decide) jb_7 (by decide) (by omega)
    have i5 : rd_emit I3 x 7 0 = _ := i5
    rw [if_pos (show I1 (x + 2) 6 = 62 from g6.isc c5), i1, Option.bind_some]
    try dsimp only
    rw [i3, Option.bind_some]
    try dsimp only
    rw [i5, Option.bind_some]
    try dsimp only
    rw [isb_out i7, Option.bind_some]
    try dsimp only
    rw [show r_is Iz1 z 41 = 1 from g6.isr (u := 15) (by decide) c5, if_neg (show ¬ (1 : Int32) = 0 by decide), i2, Option.bind_some]
    try dsimp only
    rw [i4, Option.bind_some]
    try dsimp only
    rw [i6]
    rcases i7 with rfl | rfl
    · exact ⟨_, _, _, rfl, rfl, i8⟩
    · exact ⟨_, _, _, rfl, rfl, i8⟩
  rw [if_neg (show ¬ I1 (x + 2) 6 = 62 from g6.nsc (u := 15) (by decide) c5), show r_is Iz1 z 41 = 0 from g6.nsr (u := 15) (by decide) c5, if_pos rfl]
  obtain ⟨I2, Iz2, i1, i2, i3, i4, i5, i6, i7⟩ := bad_go (v := 2) g6 (by omega) (by omega)
  have i1 : rd_refuse I1 x 2 = _ := i1
  have i2 : r_fails Iz1 z 2 = _ := i2
  rw [i1, i2, Option.bind_some, Option.bind_some]
  try dsimp only
  rw [(bd_parse i3.ne).2.2 kr' (nI d), Option.bind_some]
  try dsimp only
  rw [i3.codes, isb_out (Or.inl rfl)]
  exact ⟨_, _, _, rfl, rfl, g3.tr i4, g4.tr i5, Or.inl ⟨rfl, i3⟩⟩
end
