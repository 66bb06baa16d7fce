/-! atoms and units -/
section
variable {x z sz : Nat} {b : Nat → Nat} {I Iz : Nat → Nat → Int32} {t a e m n : Nat}
theorem Out.wk {I1 Iz1 : Nat → Nat → Int32} {aa m0 n0 nd nd' : Nat} {tr tr' : Bool} {r : Int32} (h : Out x z sz b I Iz aa a m n m0 n0 nd tr r I1 Iz1) (hn : nd ≤ nd') (ht : tr' = true → tr = true) : Out x z sz b I Iz aa a m n m0 n0 nd' tr' r I1 Iz1 := by
  obtain ⟨g1, g2, g3⟩ := h
  refine ⟨g1, g2, ?_⟩
  rcases g3 with g3 | ⟨g3, t1, a1, e1, m1, n1, φ, k1, k2, k3, k4, k5, k6, k7⟩
  · exact Or.inl g3
  · exact Or.inr ⟨g3, t1, a1, e1, m1, n1, φ, k1, k2, k3.keep (fun _ _ _ => rfl) hn, k4, k5, k6, fun hh => k7 (ht hh)⟩
theorem isb_out {α : Type} {r : Int32} {y : Option α} (h : r = 0 ∨ r = 1) : isb r y = y := by unfold isb; rw [if_pos h]
theorem Out.r01 {I1 Iz1 : Nat → Nat → Int32} {aa m0 n0 nd : Nat} {tr : Bool} {r : Int32} (h : Out x z sz b I Iz aa a m n m0 n0 nd tr r I1 Iz1) : r = 0 ∨ r = 1 := by
  rcases h.2.2 with g | g
  · exact Or.inl g.1
  · exact Or.inr g.1
/-- a number, or a word of the facts -/
theorem leaf_go {op v nd : Nat} {c : Int32} {φ : Row → Int32} (h : Ps x z sz b I Iz t a e m n) (hm : m ≤ a) (hn : n ≤ a) (ht : t ≠ 3 ∧ t ≠ 0) (ho : op < 16) (hv : v < 1000) (hc : ∀ R : Nat → Int32, R m = nI (16 * v + op) → SegC R m (m + 1) nd φ) (hr : ∀ f s, stR f c s = some (φ f :: s)) : ∃ u I1 Iz1 I2 Iz2, rd_emit I x (nI op) (nI v) = some (u, I1) ∧ r_codes Iz z c = some Iz1 ∧ rd_takeToken 2000 I1 x = some I2 ∧ r_nextToken 2000 Iz1 z = some Iz2 ∧ Out x z sz b I Iz (a + 1) a m n m n nd false 1 I2 Iz2 := by
  obtain ⟨p1, p2, p3, p4, p5⟩ := h.tk
  have hae := p5 ht.2
  obtain ⟨I1, w1, w2, w3, w4, w5⟩ := em_go (op := op) (v := v) h (by omega) ho hv
  obtain ⟨Iz1, v1, v2, v3, v4, v5⟩ := co_go (c := c) w2 (by omega)
  obtain ⟨t1, a1, e1, I2, Iz2, g1, g2, g3, g4, g5, g6, g7, g8⟩ := tk_go v2 ht.1
  refine ⟨_, I1, Iz1, I2, Iz2, w1, v1, g1, g2, w3.tr g7, v3.tr g8, Or.inr ⟨rfl, t1, a1, e1, m + 1, n + 1, φ, g3, by omega, ?_, ?_, ?_, ?_, fun hh => by cases hh⟩⟩
  · rw [g5]
    exact hc _ w4
  · rw [g6]
    exact segR_one v4 hr
  · intro k hk
    rw [g5, w5 k (by omega)]
  · intro k hk
    rw [g6, v5 _ (by omega) (by omega)]
/-- what stands in brackets -/
theorem encl_go {d kc kr tag u nd : Nat} (h : Ps x z sz b I Iz t a e m n) (hm : m ≤ a) (hn : n ≤ a) (ht : t ≠ 3 ∧ t ≠ 0) (hd : d ≤ 6) (htag : tag ≠ 3) (hu : u < 36 ∧ u ≠ 3) (hsub : d < 6 → Spec x z sz b tag (d + 1) kc kr) (hnd : d < 6 → ndp tag (d + 1) ≤ nd) : (∃ I1 Iz1, rd_goWithin 2000 I x (nI d) = some (0, I1) ∧ r_goesIn 2000 Iz z (nI d) = some (0, Iz1) ∧ Out x z sz b I Iz (a + 1) a m n m n nd (Nat.ble 4 tag) 0 I1 Iz1) ∨ (∃ I1 Iz1, rd_goWithin 2000 I x (nI d) = some (1, I1) ∧ r_goesIn 2000 Iz z (nI d) = some (1, Iz1) ∧ ∃ r I2 Iz2, rd_parse 2000 x kc tag (nI d + 1) I1 = some (r, I2) ∧ r_parse 2000 z kr (rtag tag) (nI d + 1) Iz1 = some Iz2 ∧ ((r = 0 ∧ Bd x z I2 Iz2 ∧ Out x z sz b I Iz (a + 1) a m n m n nd (Nat.ble 4 tag) 0 I2 Iz2) ∨ (r = 1 ∧ ((∃ I3 Iz3, rd_expect 2000 I2 x (kcT.getD u 0) = some (1, I3) ∧ r_eats 2000 Iz2 z (krT.getD u 0) = some (1, Iz3) ∧ Out x z sz b I Iz (a + 1) a m n m n nd (Nat.ble 4 tag) 1 I3 Iz3) ∨ (∃ I3 Iz3, rd_expect 2000 I2 x (kcT.getD u 0) = some (0, I3) ∧ r_eats 2000 Iz2 z (krT.getD u 0) = some (0, Iz2) ∧ r_fails Iz2 z 2 = some Iz3 ∧ Out x z sz b I Iz (a + 1) a m n m n nd (Nat.ble 4 tag) 0 I3 Iz3))))) := by
  obtain ⟨p1, p2, p3, p4, p5⟩ := h.tk
  have hae := p5 ht.2
  rcases within_go h (by omega) ht.1 hd with ⟨hd6, t1, a1, e1, I1, Iz1, g1, g2, g3, g4, g5, g6, g7, g8⟩ | ⟨hd6, I1, Iz1, g1, g2, g3, g4, g5⟩
  · right
    refine ⟨I1, Iz1, g1, g2, ?_⟩
    obtain ⟨r, I2, Iz2, k1, k2, k3, k4, k5⟩ := hsub hd6 I1 Iz1 t1 a1 e1 m n g3 (by omega) (by omega) (fun cc => absurd cc htag)
    rw [nI_1]
    refine ⟨r, I2, Iz2, k1, k2, ?_⟩
    rcases k5 with ⟨k5, k6⟩ | ⟨k5, t2, a2, e2, m2, n2, φ, k6, k7, k8, k9, k10, k11, k12⟩
    · exact Or.inl ⟨k5, k6, g7.tr k3, g8.tr k4, Or.inl ⟨rfl, k6⟩⟩
    · right
      refine ⟨k5, ?_⟩
      obtain ⟨q1, q2, q3, q4, q5⟩ := k6.tk
      rcases expect_go k6 (by omega) hu.1 hu.2 with ⟨c, t3, a3, e3, I3, Iz3, j1, j2, j3, j4, j5, j6, j7, j8⟩ | ⟨c, I3, Iz3, j1, j2, j3, j4, j5, j6, j7⟩
      · refine Or.inl ⟨I3, Iz3, j1, j2, (g7.tr k3).tr j7, (g8.tr k4).tr j8, Or.inr ⟨rfl, t3, a3, e3, m2, n2, φ, j3, by omega, ?_, ?_, ?_, ?_, k12⟩⟩
        · rw [j5]
          exact k8.keep (fun _ _ _ => rfl) (hnd hd6)
        · rw [j6]
          exact k9
        · intro k hk
          rw [j5, k10 k hk, g5]
        · intro k hk
          rw [j6, k11 k hk, g6]
      · exact Or.inr ⟨I3, Iz3, j1, j2, j3, (g7.tr k3).tr j5, (g8.tr k4).tr j6, Or.inl ⟨rfl, j4⟩⟩
  · exact Or.inl ⟨I1, Iz1, g1, g2, g4, g5, Or.inl ⟨rfl, g3⟩⟩
theorem wd_t : ∀ t, t < 36 → ¬ (16 ≤ t ∧ t < 23) → r_wordOf 0 (krT.getD t 0) = -1 ∧ (¬ kcT.getD t 0 < 200 → 207 ≤ kcT.getD t 0) := by decide
theorem wd_k : ∀ k, k < 7 → r_wordOf 0 (krT.getD (16 + k) 0) = nI k ∧ kcT.getD (16 + k) 0 - 200 = nI k ∧ ¬ kcT.getD (16 + k) 0 < 200 ∧ ¬ 207 ≤ kcT.getD (16 + k) 0 ∧ ¬ nI k = -1 ∧ (1000 : Int32) + nI k = nI (1000 + k) := by decide
theorem Atom_body {d kc kr : Nat} (hd : d ≤ 6) (hS : d < 6 → Spec x z sz b 0 (d + 1) kc kr) (hI : Spec x z sz b 3 d kc kr) : Spec x z sz b 2 d (kc + 1) (kr + 1) := by
  intro I Iz t a e m n h hm hn _
  obtain ⟨p1, p2, p3, p4, p5⟩ := h.tk
  have n2 : ndp 2 d = 8 * (6 - d) + 2 := rfl
  have e0 : rtag 2 = 0 := rfl
  rw [e0, rd_parse, r_parse]
  rw [if_neg (show ¬ (2 : Nat) = 0 by decide), if_neg (show ¬ (2 : Nat) = 1 by decide), if_pos rfl]
  rw [if_pos rfl]
  unfold rd_readAtomB r_readAtomB
  have tf : Nat.ble 4 2 = false := rfl
  rw [tf]
  by_cases c1 : t = 1
  · obtain ⟨w, w1, w2, w3⟩ := h.1.2.2.2.1 c1
    obtain ⟨u, I1, Iz1, I2, Iz2, g1, g2, g3, g4, g5⟩ := leaf_go (op := 0) (v := w) (nd := ndp 2 d) (c := nI w) (φ := fun _ => nI w) h hm hn (by omega) (by decide) w1 (fun R hR => segC_num hR w1 (by omega)) (fun f s => by
      unfold stR
      rw [if_neg (show ¬ (3000 : Int32) ≤ nI w from nI_ge (b := 3000) (by omega) (by decide)), if_neg (show ¬ (1000 : Int32) ≤ nI w from nI_ge (b := 1000) (by omega) (by decide))])
    have g1 : rd_emit I x 0 (nI w) = _ := g1
    rw [if_pos (show I (x + 2) 6 = 1 from h.isc c1), w2, g1, Option.bind_some]
    try dsimp only
    rw [g3, Option.bind_some]
    try dsimp only
    rw [show r_is Iz z 23 = 1 from h.isr (u := 1) (by decide) c1, if_neg (show ¬ (1 : Int32) = 0 by decide), w3, g2, Option.bind_some]
    try dsimp only
    rw [g4]
    exact ⟨_, _, _, rfl, rfl, g5⟩
  rw [if_neg (show ¬ I (x + 2) 6 = 1 from h.nsc (u := 1) (by decide) c1), show r_is Iz z 23 = 0 from h.nsr (u := 1) (by decide) c1, if_pos rfl, if_pos h.ok, show r_wordOf z (Iz z 9) = r_wordOf 0 (Iz z 9) from rfl, h.kr, h.kc]
  by_cases c2 : 16 ≤ t ∧ t < 23
  · obtain ⟨k, rfl⟩ : ∃ k, t = 16 + k := ⟨t - 16, by omega⟩
    obtain ⟨k1, k2, k3, k4, k5, k6⟩ := wd_k k (by omega)
    obtain ⟨u, I1, Iz1, I2, Iz2, g1, g2, g3, g4, g5⟩ := leaf_go (op := 1) (v := k) (nd := ndp 2 d) (c := nI (1000 + k)) (φ := fun f => f k) h hm hn (by omega) (by decide) (by omega) (fun R hR => segC_word hR (by omega) (by omega)) (fun f s => by
      unfold stR
      rw [if_neg (show ¬ (3000 : Int32) ≤ nI (1000 + k) from nI_ge (b := 3000) (by omega) (by decide)), if_pos (show (1000 : Int32) ≤ nI (1000 + k) from nI_le (a := 1000) (by omega) (by omega)), if_pos (show nI (1000 + k) < 1007 from nI_lt (b := 1007) (by omega) (by decide)), show nI (1000 + k) - 1000 = nI (1000 + k - 1000) from nI_SB (b := 1000) (by omega), nI_cl (by omega), show 1000 + k - 1000 = k by omega])
    have g1 : rd_emit I x 1 (nI k) = _ := g1
    rw [if_neg k3, if_neg k4, k2, g1, Option.bind_some]
    try dsimp only
    rw [g3, Option.bind_some]
    try dsimp only
    rw [k1, if_neg k5, k6, g2, Option.bind_some]
    try dsimp only
    rw [g4]
    exact ⟨_, _, _, rfl, rfl, g5⟩
  obtain ⟨k1, k2⟩ := wd_t t p1 c2
  rw [k1, if_pos rfl]
  by_cases c3 : t = 9
  · subst c3
    rw [if_pos (show kcT.getD 9 0 < 200 by decide), if_pos (show kcT.getD 9 0 = 40 from rfl), show r_is Iz z 35 = 1 from h.isr (u := 9) (by decide) rfl, if_neg (show ¬ (1 : Int32) = 0 by decide)]
    rcases encl_go (tag := 0) (u := 10) (nd := ndp 2 d) h hm hn (by omega) hd (by decide) (by decide) hS (fun hh => by have : ndp 0 (d + 1) = 8 * (6 - (d + 1)) + 4 := rfl; omega) with ⟨I1, Iz1, g1, g2, g3⟩ | ⟨I1, Iz1, g1, g2, r, I2, Iz2, g3, g4, g5⟩
    · rw [g1, g2, Option.bind_some, Option.bind_some]
      try dsimp only
      rw [if_pos rfl, if_pos rfl]
      exact ⟨_, _, _, rfl, rfl, g3⟩
    · have g4 : r_parse 2000 z kr 3 (nI d + 1) Iz1 = _ := g4
      rw [g1, g2, Option.bind_some, Option.bind_some]
      try dsimp only
      rw [if_neg (show ¬ (1 : Int32) = 0 by decide), if_neg (show ¬ (1 : Int32) = 0 by decide), g3, g4, Option.bind_some, Option.bind_some]
      try dsimp only
      rcases g5 with ⟨g5, g6, g7⟩ | ⟨g5, ⟨I3, Iz3, g6, g7, g8⟩ | ⟨I3, Iz3, g6, g7, g8, g9⟩⟩
      · rw [g5, if_pos rfl, g6.eats, Option.bind_some]
        try dsimp only
        rw [if_pos rfl, g6.fails]
        exact ⟨_, _, _, rfl, rfl, g7⟩
      · have g6 : rd_expect 2000 I2 x 41 = _ := g6
        have g7 : r_eats 2000 Iz2 z 36 = _ := g7
        rw [g5, if_neg (show ¬ (1 : Int32) = 0 by decide), g6, g7, Option.bind_some, Option.bind_some]
        try dsimp only
        rw [if_neg (show ¬ (1 : Int32) = 0 by decide), if_neg (show ¬ (1 : Int32) = 0 by decide)]
        exact ⟨_, _, _, rfl, rfl, g8⟩
      · have g6 : rd_expect 2000 I2 x 41 = _ := g6
        have g7 : r_eats 2000 Iz2 z 36 = _ := g7
        rw [g5, if_neg (show ¬ (1 : Int32) = 0 by decide), g6, g7, Option.bind_some, Option.bind_some]
        try dsimp only
        rw [if_pos rfl, if_pos rfl, g8]
        exact ⟨_, _, _, rfl, rfl, g9⟩
  have k40 : ¬ kcT.getD t 0 = 40 := fun cc => c3 ((kc_inj t p1 9 (by decide)).mp cc)
  rw [show r_is Iz z 35 = 0 from h.nsr (u := 9) (by decide) c3, if_pos rfl]
  by_cases c4 : t = 29
  · subst c4
    obtain ⟨r, I1, Iz1, g1, g2, g3⟩ := hI I Iz 29 a e m n h hm hn (fun _ => rfl)
    have g2 : r_parse 2000 z kr 1 (nI d) Iz = _ := g2
    rw [if_neg (show ¬ kcT.getD 29 0 < 200 by decide), if_pos (show 207 ≤ kcT.getD 29 0 by decide), if_neg k40, if_pos (show kcT.getD 29 0 = 213 from rfl), g1, Option.bind_some]
    try dsimp only
    rw [show r_is Iz z 9 = 1 from h.isr (u := 29) (by decide) rfl, if_neg (show ¬ (1 : Int32) = 0 by decide), g2, isb_out g3.r01]
    exact ⟨_, _, _, rfl, rfl, g3.wk (by have : ndp 3 d = 8 * (6 - d) + 1 := rfl; omega) (fun hh => by cases hh)⟩
  have k213 : ¬ kcT.getD t 0 = 213 := fun cc => c4 ((kc_inj t p1 29 (by decide)).mp cc)
  rw [show r_is Iz z 9 = 0 from h.nsr (u := 29) (by decide) c4, if_pos rfl]
  obtain ⟨I1, Iz1, g1, g2, g3, g4, g5, g6, g7⟩ := bad_go (v := 2) h (by omega) (by omega)
  have g1 : rd_refuse I x 2 = _ := g1
  have g2 : r_fails Iz z 2 = _ := g2
  have fin : ∃ r I1 Iz1, (rd_refuse I x 2).bind (fun q5 => isb q5.1 (some (q5.1, q5.2))) = some (r, I1) ∧ (r_fails Iz z 2).bind (fun q30 => some q30) = some Iz1 ∧ Out x z sz b I Iz (a + 1) a m n m n (ndp 2 d) false r I1 Iz1 := by
    rw [g1, g2]
    exact ⟨0, I1, Iz1, rfl, rfl, g4, g5, Or.inl ⟨rfl, g3⟩⟩
  by_cases c5 : kcT.getD t 0 < 200
  · rw [if_pos c5, if_neg k40, if_neg k213]
    exact fin
  · rw [if_neg c5, if_pos (k2 c5), if_neg k40, if_neg k213]
    exact fin
end
