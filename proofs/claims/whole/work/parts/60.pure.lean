section
variable {T : Nat → Option (Nat × Nat)} {I : Nat → Nat → Int32} {J : Nat → Nat → Int64} {P : Nat → Nat → Option Nat} {x nn c : Nat} {Iz : Nat → Nat → Int32} {Jz : Nat → Nat → Int64} {z N n u tn : Nat} {LT LP : Row → Int32} {d na v e : Nat}
/-- rows of the class that a trial of a night leaves alone -/
def Tx (I I1 : Nat → Nat → Int32) (x c : Nat) : Prop := (∀ q, ¬ (x + 101 ≤ q ∧ q ≤ x + 107) → q ≠ x + 108 → q ≠ x + 109 → q ≠ c + 5 → q ≠ c + 6 → q ≠ c + 7 → I1 q = I q) ∧ ∀ k, k ≠ 1 → I1 (x + 108) k = I (x + 108) k
theorem Kz.n19 {Iz1 : Nat → Nat → Int32} (h : Kz Iz Iz1 z) : Iz1 (z + 19) = Iz (z + 19) := h.2.2.1 _ (by omega) (by omega) (by omega) (by omega) (by omega) (by omega)
theorem worth_call (h : InvS T I J P x nn c Iz Jz z N n u tn LT LP d na v) (hN : N < 600) (a b : Int32) : ∃ r I2 Iz2, x_worth 2000 T I J P x c a b = some (r, I2) ∧ r_worth 2000 Iz Jz z a b = some (r, Iz2) ∧ Unq I I2 x c Iz Iz2 z := by
  have hcx := (h.1 c (Or.inl rfl)).1.1
  have hn := h.n6
  obtain ⟨w, I1, e1, e2, r1, r2, r3⟩ := readNight_is h a b
  unfold x_worth r_worth
  try dsimp only
  rw [e1, e2, Option.bind_some, Option.bind_some]
  try dsimp only
  by_cases hw : w = 0
  · obtain ⟨t, p, m, tl, rfl, rfl, hp, hNg⟩ := r3 hw
    subst hw
    rw [if_pos rfl, if_pos rfl]
    obtain ⟨Iz1, k1, K1⟩ := kz_start (Iz := Iz) (z := z)
    obtain ⟨e, I2, c1, he, S, hN2, xq, x8⟩ := trial_is (I0 := I) h (Iz1 := Iz1) (rdn_x (c := c) r1) r2 (hNg.fx rfl rfl (by rw [K1.n19, thr_row (by decide)])) K1.2.1
    have hm := hN2.2.1
    obtain ⟨I3, Iz3, m1, m2, ⟨u3, S3⟩, fx, fr⟩ := wos_pl (g1 := nI p) (g2 := -1) (gg := 0) hcx m 0 2000 2000 e u I2 Iz1 (by omega) (by omega) (by omega) (by omega) (fun k a b cc => by
      have := nI_pos (n := k) (by omega)
      rw [cc] at this
      exact this (by decide)) S hN2
    have m1 : x_worthOfSitting_13 2000 T P x c (nI p) (-1) 2000 0 I2 = _ := m1
    have m2 : r_goes_3 2000 Jz z (nI t) 0 (nI m) 2000 0 Iz1 = _ := m2
    obtain ⟨pl, val, v1, v2, v3, v4, v5⟩ := worth_v S3 hp (by omega)
    obtain ⟨Iz4, k2, K2⟩ := kz_back K1 fr
    have ga : x_worthOfSitting 2000 T I1 P x c (nI p) (-1) = some (val, I3) := by
      unfold x_worthOfSitting
      rw [c1, Option.bind_some]
      try dsimp only
      rw [m1, Option.bind_some]
      try dsimp only
      rw [v1, Option.bind_some]
      try dsimp only
      rw [chk_nI v2 (by decide), chk_nI (by omega) (by decide), nI_cl (by omega), nI_cl (by omega), v3]
    have gb : r_goes 2000 Iz1 Jz z (nI t) 0 (nI m) = some Iz3 := by
      unfold r_goes
      rw [m2]
      rfl
    rw [ga, k1, Option.bind_some, Option.bind_some]
    try dsimp only
    rw [chk_nI hN2.1 (by decide), nI_cl (by have := hN2.1; omega), hN2.2.2.2.1, gb, Option.bind_some]
    try dsimp only
    rw [v4, Option.bind_some]
    try dsimp only
    rw [k2, Option.bind_some]
    obtain ⟨y1, y2⟩ := gone_x hcx xq x8 fx
    exact ⟨_, _, _, rfl, rfl, (unq_x hcx y1 y2).1, K2.keep, (unq_x hcx y1 y2).2⟩
  · rw [if_neg hw, if_neg hw]
    exact ⟨_, _, _, rfl, rfl, unq_r r1 r2⟩
/-- one try of the best minute, on both sides -/
theorem try_is (h : InvS T I J P x nn c Iz Jz z N n u tn LT LP d na v) (hN : N < 600) {I1 Iz1 : Nat → Nat → Int32} {t m p k : Nat} {tl : Nat → Nat} (hx : Tx I I1 x c) (hK : Kz Iz Iz1 z) (hNg : Ngt I1 x Iz1 Jz z t m tn tl) (hp : p < n) (hk : k ≤ m) :
    ∃ val I2 IzA IzB IzC IzD b, x_worthOfSitting 2000 T I1 P x c (nI p) (nI k) = some (val, I2) ∧ Tx I I2 x c ∧ Ngt I2 x IzD Jz z t m tn tl ∧ r_goes 2000 Iz1 Jz z (nI t) 0 (nI k) = some IzA ∧ r_isUp IzA z (nI p) = some (b2 b) ∧ ((b = false ∧ IzB = IzA) ∨ (b = true ∧ r_sitsOwn IzA z (nI p) = some IzB)) ∧ IzB (z + 19) t = nI m ∧ r_goes 2000 IzB Jz z (nI t) (nI k) (nI m) = some IzC ∧ r_worthNow 2000 IzC z (nI p) = some val ∧ r_isAgain 2000 IzC z = some IzD ∧ Kz Iz IzD z ∧ -268435456 < val := by
  have hcx := (h.1 c (Or.inl rfl)).1.1
  have hn := h.n6
  obtain ⟨e, I2, c1, he, S, hN2, xq, x8⟩ := trial_is (I0 := I) h (Iz1 := Iz1) hx.1 hx.2 hNg hK.2.1
  have hm := hN2.2.1
  obtain ⟨I3, IzA, a1, a2, ⟨uA, SA⟩, fxA, frA⟩ := wos_to (g1 := nI p) (gg := 0) hcx hk k 0 (2000 - k) 2000 e u I2 Iz1 (by omega) (by omega) (by omega) S hN2
  have hNA := hN2.go hcx (by omega) fxA frA
  obtain ⟨I4, IzB, IzC, b1, b2', b3, b4, ⟨uC, eC, heC, SC⟩, fxC, frC⟩ := wos_at hcx hk hp (f := 2000 - k) (by omega) (by omega) SA hNA
  rw [show 2000 - k + k = 2000 by omega] at a1
  have a1 : x_worthOfSitting_13 2000 T P x c (nI p) (nI k) 2000 0 I2 = _ := a1
  have a2 : r_goes_3 2000 Jz z (nI t) 0 (nI k) 2000 0 Iz1 = _ := a2
  obtain ⟨pl, val, v1, v2, v3, v4, v5⟩ := worth_v SC hp (by omega)
  obtain ⟨IzD, k2, K2⟩ := kz_back hK (frA.tr frC)
  obtain ⟨y1, y2⟩ := gone_x hcx xq x8 (fxA.tr fxC)
  refine ⟨val, I4, IzA, IzB, IzC, IzD, ub uA p, ?_, ⟨y1, y2⟩, ?_, ?_, r_isUp_is SA.1.2.2.1 SA.1.u64 (by omega), b2', b3, b4, v4, k2, K2, v5⟩
  · unfold x_worthOfSitting
    rw [c1, Option.bind_some]
    try dsimp only
    rw [a1, b1, Option.bind_some]
    try dsimp only
    rw [v1, Option.bind_some]
    try dsimp only
    rw [chk_nI v2 (by decide), chk_nI (by omega) (by decide), nI_cl (by omega), nI_cl (by omega), v3]
  · have hNC := hNA.go hcx (by omega) fxC frC
    exact hNC.fx rfl rfl (by rw [K2.n19, ← hK.n19, ← (frA.tr frC).1 _ (by omega) (by omega) (by omega) (by omega) (by omega)])
  · unfold r_goes
    rw [a2]
    rfl
theorem best_go (h : InvS T I J P x nn c Iz Jz z N n u tn LT LP d na v) (hN : N < 600) {t m p : Nat} {tl : Nat → Nat} {g1 g3 g3' : Int32} (hp : p < n) : ∀ (j k f g : Nat) (bs ms : Int32) (I1 Iz1 : Nat → Nat → Int32), k + j = m + 1 → j < f → j < g → Tx I I1 x c → Kz Iz Iz1 z → Ngt I1 x Iz1 Jz z t m tn tl →
    ∃ bs' ms' I2 Iz2, x_bestSit_31 2000 T P x c g1 (nI p) g3 f bs ms (nI k) I1 = some (bs', ms', nI (m + 1), I2) ∧ r_bestSit_37 2000 Jz z (nI t) (nI p) g3' g bs ms (nI k) Iz1 = some (bs', ms', nI (m + 1), Iz2) ∧ Tx I I2 x c ∧ Kz Iz Iz2 z := by
  intro j
  induction j with
  | zero =>
    intro k f g bs ms I1 Iz1 hk hf hg hx hK hNg
    obtain ⟨f, rfl⟩ : ∃ f', f = f' + 1 := ⟨f - 1, by omega⟩
    obtain ⟨g, rfl⟩ : ∃ f', g = f' + 1 := ⟨g - 1, by omega⟩
    obtain rfl : k = m + 1 := by omega
    obtain ⟨n1, n2, n3, n4, n5⟩ := id hNg
    refine ⟨bs, ms, I1, Iz1, ?_, ?_, hx, hK⟩
    · rw [x_bestSit_31, n3, if_pos (nI_lt (by omega) (by omega))]
    · rw [r_bestSit_37, chk_nI n1 (by decide), nI_cl (by omega), n4, if_pos (nI_lt (by omega) (by omega))]
  | succ j ih =>
    intro k f g bs ms I1 Iz1 hk hf hg hx hK hNg
    obtain ⟨f, rfl⟩ : ∃ f', f = f' + 1 := ⟨f - 1, by omega⟩
    obtain ⟨g, rfl⟩ : ∃ f', g = f' + 1 := ⟨g - 1, by omega⟩
    obtain ⟨n1, n2, n3, n4, n5⟩ := id hNg
    obtain ⟨val, I2, IzA, IzB, IzC, IzD, b, q1, q2, q3, q4, q5, q6, q7, q8, q9, q10, q11, q12⟩ := try_is h hN hx hK hNg hp (show k ≤ m by omega)
    have key : ∃ bs' ms' I3 Iz3, (if val ≤ ms then x_bestSit_31 2000 T P x c g1 (nI p) g3 f bs ms (nI k + 1) I2 else x_bestSit_31 2000 T P x c g1 (nI p) g3 f (nI k) val (nI k + 1) I2) = some (bs', ms', nI (m + 1), I3) ∧ (if ms < val then r_bestSit_37 2000 Jz z (nI t) (nI p) g3' g (nI k) val (nI k + 1) IzD else r_bestSit_37 2000 Jz z (nI t) (nI p) g3' g bs ms (nI k + 1) IzD) = some (bs', ms', nI (m + 1), Iz3) ∧ Tx I I3 x c ∧ Kz Iz Iz3 z := by
      rw [nI_1]
      by_cases cv : val ≤ ms
      · rw [if_pos cv, if_neg (Int32.not_lt.mpr cv)]
        exact ih (k + 1) f g bs ms I2 IzD (by omega) (by omega) (by omega) q2 q11 q3
      · rw [if_neg cv, if_pos (Int32.not_le.mp cv)]
        exact ih (k + 1) f g (nI k) val I2 IzD (by omega) (by omega) (by omega) q2 q11 q3
    obtain ⟨bs', ms', I3, Iz3, k1, k2, k3, k4⟩ := key
    refine ⟨bs', ms', I3, Iz3, ?_, ?_, k3, k4⟩
    · rw [x_bestSit_31, n3, if_neg (nI_nlt (by omega) (by omega)), q1, Option.bind_some]
      exact k1
    · rw [r_bestSit_37, chk_nI n1 (by decide), nI_cl (by omega), n4, if_neg (nI_nlt (by omega) (by omega)), q4, Option.bind_some]
      try dsimp only
      rw [q5, Option.bind_some]
      try dsimp only
      rcases q6 with ⟨rfl, rfl⟩ | ⟨rfl, q6⟩
      · rw [if_pos (show b2 false = 0 from rfl), q7, q8, Option.bind_some]
        try dsimp only
        rw [q9, Option.bind_some]
        try dsimp only
        rw [q10, Option.bind_some]
        exact k2
      · rw [if_neg (show ¬ b2 true = 0 by decide), q6, Option.bind_some]
        try dsimp only
        rw [q7, q8, Option.bind_some]
        try dsimp only
        rw [q9, Option.bind_some]
        try dsimp only
        rw [q10, Option.bind_some]
        exact k2
theorem bestSit_call (h : InvS T I J P x nn c Iz Jz z N n u tn LT LP d na v) (hN : N < 600) (a b : Int32) : ∃ r I2 Iz2, x_bestSit 2000 T I J P x c a b = some (r, I2) ∧ r_bestSit 2000 Iz Jz z a b = some (r, Iz2) ∧ Unq I I2 x c Iz Iz2 z := by
  have hcx := (h.1 c (Or.inl rfl)).1.1
  have hn := h.n6
  obtain ⟨w, I1, e1, e2, r1, r2, r3⟩ := readUp_is h a b
  unfold x_bestSit r_bestSit
  try dsimp only
  rw [e1, e2, Option.bind_some, Option.bind_some]
  try dsimp only
  by_cases hw : w = 0
  · obtain ⟨t, p, m, tl, rfl, rfl, hp, hu, hNg⟩ := r3 hw
    subst hw
    rw [if_pos rfl, if_pos rfl]
    obtain ⟨Iz1, k1, K1⟩ := kz_start (Iz := Iz) (z := z)
    have hNg1 := hNg.fx (I1 := I1) (Iz1 := Iz1) rfl rfl (by rw [K1.n19, thr_row (by decide)])
    have hm := hNg1.2.1
    obtain ⟨val, I2, IzA, IzB, IzC, IzD, bb, q1, q2, q3, q4, q5, q6, q7, q8, q9, q10, q11, q12⟩ := try_is h hN (I1 := I1) (k := 0) ⟨rdn_x r1, r2⟩ K1 hNg1 hp (Nat.zero_le _)
    obtain ⟨bs', ms', I3, Iz3, g1, g2, g3, g4⟩ := best_go h hN (g1 := nI t) (g3 := 0) (g3' := 0) hp m 1 2000 1999 0 val I2 IzD (by omega) (by omega) (by omega) q2 q11 q3
    have q1 : x_worthOfSitting 2000 T I1 P x c (nI p) 0 = _ := q1
    have g1 : x_bestSit_31 2000 T P x c (nI t) (nI p) 0 2000 0 val 1 I2 = _ := g1
    have g2 : r_bestSit_37 2000 Jz z (nI t) (nI p) 0 1999 0 val 1 IzD = _ := g2
    have q8 : r_goes 2000 IzB Jz z (nI t) 0 (nI m) = _ := q8
    have q4 : r_goes 2000 Iz1 Jz z (nI t) 0 0 = _ := q4
    rw [q1, k1, Option.bind_some, Option.bind_some]
    try dsimp only
    rw [g1, Option.bind_some]
    have gz : r_bestSit_37 2000 Jz z (nI t) (nI p) 0 2000 0 (-268435456) 0 Iz1 = some (bs', ms', nI (m + 1), Iz3) := by
      rw [r_bestSit_37, chk_nI hNg1.1 (by decide), nI_cl (by have := hNg1.1; omega), hNg1.2.2.2.1, if_neg (show ¬ nI m < 0 from nI_pos (by omega)), q4, Option.bind_some]
      try dsimp only
      rw [q5, Option.bind_some]
      try dsimp only
      rcases q6 with ⟨rfl, rfl⟩ | ⟨rfl, q6⟩
      · rw [if_pos (show b2 false = 0 from rfl), q7, q8, Option.bind_some]
        try dsimp only
        rw [q9, Option.bind_some]
        try dsimp only
        rw [q10, Option.bind_some]
        try dsimp only
        rw [if_pos q12]
        exact g2
      · rw [if_neg (show ¬ b2 true = 0 by decide), q6, Option.bind_some]
        try dsimp only
        rw [q7, q8, Option.bind_some]
        try dsimp only
        rw [q9, Option.bind_some]
        try dsimp only
        rw [q10, Option.bind_some]
        try dsimp only
        rw [if_pos q12]
        exact g2
    rw [gz, Option.bind_some]
    exact ⟨_, _, _, rfl, rfl, (unq_x hcx g3.1 g3.2).1, g4.keep, (unq_x hcx g3.1 g3.2).2⟩
  · rw [if_neg hw, if_neg hw]
    exact ⟨_, _, _, rfl, rfl, unq_r r1 r2⟩
end
