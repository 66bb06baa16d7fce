/-! bound -/
section
variable {T : Nat → Option (Nat × Nat)} {I : Nat → Nat → Int32} {J : Nat → Nat → Int64} {P : Nat → Nat → Option Nat} {x nn a c : Nat} {Iz : Nat → Nat → Int32} {Jz : Nat → Nat → Int64} {z N n u tn : Nat} {LT LP : Row → Int32} {d na v e : Nat}
theorem n99lt {l : Nat} (h : l < 100) : ¬ (99 : Int32) < nI l := fun cc => by have := (nI_ltI (a := 99) (b := l) (by omega) (by omega)).mp cc; omega
theorem bd_stay {g1 g2 g3 g5 : Int32} {b : Int32} (hb : b ≠ -1) : ∀ (j l g : Nat), l + j = 100 → j < g → r_bound_47 2000 Iz z g1 g2 g3 0 g5 g b (nI l) = some (b, nI 100) := by
  intro j
  induction j with
  | zero =>
    intro l g hl hg
    obtain ⟨g, rfl⟩ : ∃ f', g = f' + 1 := ⟨g - 1, by omega⟩
    obtain rfl : l = 100 := by omega
    rw [r_bound_47, if_pos (by decide)]
  | succ j ih =>
    intro l g hl hg
    obtain ⟨g, rfl⟩ : ∃ f', g = f' + 1 := ⟨g - 1, by omega⟩
    rw [r_bound_47, if_neg (n99lt (by omega)), chk_nI (by omega) (by decide), nI_1, if_neg (show ¬ (0 : Int32) = 1 by decide), if_neg hb, ih (l + 1) g (by omega) (by omega)]
    exact ite_self _
theorem bd_0 {g1 g2 g3 g5 h1 h2 h3 h5 : Int32} (hR : ∀ i, i < 100 → I (x + 134) i = Iz (z + 14) i) : ∀ (j l f g : Nat), l + j = 100 → j < f → j < g →
    (x_bound_41 2000 I x c g1 g2 g3 0 g5 f (nI l) = some (.inr (nI 100)) ∧ r_bound_47 2000 Iz z h1 h2 h3 0 h5 g (-1) (nI l) = some (-1, nI 100)) ∨ ∃ b, x_bound_41 2000 I x c g1 g2 g3 0 g5 f (nI l) = some (.inl (b, I)) ∧ r_bound_47 2000 Iz z h1 h2 h3 0 h5 g (-1) (nI l) = some (b, nI 100) := by
  intro j
  induction j with
  | zero =>
    intro l f g hl hf hg
    obtain ⟨f, rfl⟩ : ∃ f', f = f' + 1 := ⟨f - 1, by omega⟩
    obtain ⟨g, rfl⟩ : ∃ f', g = f' + 1 := ⟨g - 1, by omega⟩
    obtain rfl : l = 100 := by omega
    left
    rw [r_bound_47, x_bound_41, if_pos (by decide), if_pos (by decide)]
    exact ⟨rfl, rfl⟩
  | succ j ih =>
    intro l f g hl hf hg
    obtain ⟨f, rfl⟩ : ∃ f', f = f' + 1 := ⟨f - 1, by omega⟩
    obtain ⟨g, rfl⟩ : ∃ f', g = f' + 1 := ⟨g - 1, by omega⟩
    rw [x_bound_41, r_bound_47, if_neg (n99lt (by omega)), if_neg (n99lt (by omega)), if_pos rfl, chk_nI (k := l) (N := 100) (by omega) (by decide), chk_nI (k := l) (N := 100) (by omega) (by decide), nI_1, nI_cl (show l < 2147483648 by omega)]
    by_cases e : Iz (z + 14) l = 0
    · rw [if_pos (show I (x + 134) l = 0 by rw [hR l (by omega)]; exact e), if_pos e]
      exact ih (l + 1) f g (by omega) (by omega) (by omega)
    · rw [if_neg (show ¬ I (x + 134) l = 0 by rw [hR l (by omega)]; exact e), if_neg e, if_neg (show ¬ (0 : Int32) = 1 by decide), if_pos rfl, bd_stay (b := nI l) (fun cc => by
        have e1 : (nI l).toInt = -1 := by rw [cc]; decide
        have e2 := Int32.le_iff_toInt_le.mp (nI_le (a := 0) (b := l) (by omega) (by omega))
        have e3 : (nI 0).toInt = 0 := by decide
        omega) j (l + 1) g (by omega) (by omega)]
      exact Or.inr ⟨_, rfl, rfl⟩
theorem bd_r1 {h1 h2 h3 h5 : Int32} : ∀ (j l g : Nat) (b : Int32), l + j = 100 → j < g → ∃ b', r_bound_47 2000 Iz z h1 h2 h3 1 h5 g b (nI l) = some (b', nI 100) ∧ ((b' = b ∧ ∀ i, l ≤ i → i < 100 → Iz (z + 14) i = 0) ∨ ∃ i, l ≤ i ∧ i < 100 ∧ b' = nI i ∧ Iz (z + 14) i ≠ 0 ∧ ∀ q, i < q → q < 100 → Iz (z + 14) q = 0) := by
  intro j
  induction j with
  | zero =>
    intro l g b hl hg
    obtain ⟨g, rfl⟩ : ∃ f', g = f' + 1 := ⟨g - 1, by omega⟩
    obtain rfl : l = 100 := by omega
    rw [r_bound_47, if_pos (by decide)]
    exact ⟨b, rfl, Or.inl ⟨rfl, fun i a b => absurd a (by omega)⟩⟩
  | succ j ih =>
    intro l g b hl hg
    obtain ⟨g, rfl⟩ : ∃ f', g = f' + 1 := ⟨g - 1, by omega⟩
    rw [r_bound_47, if_neg (n99lt (by omega)), chk_nI (k := l) (N := 100) (by omega) (by decide), nI_1, nI_cl (show l < 2147483648 by omega), if_pos rfl]
    by_cases e : Iz (z + 14) l = 0
    · rw [if_pos e]
      obtain ⟨b', a1, a2⟩ := ih (l + 1) g b (by omega) (by omega)
      refine ⟨b', a1, ?_⟩
      rcases a2 with ⟨a2, a3⟩ | ⟨i, a2, a3⟩
      · refine Or.inl ⟨a2, fun i b1 b2 => ?_⟩
        by_cases ei : i = l
        · subst ei; exact e
        · exact a3 i (by omega) b2
      · exact Or.inr ⟨i, by omega, a3⟩
    · rw [if_neg e]
      obtain ⟨b', a1, a2⟩ := ih (l + 1) g (nI l) (by omega) (by omega)
      refine ⟨b', a1, ?_⟩
      rcases a2 with ⟨a2, a3⟩ | ⟨i, a2, a3⟩
      · exact Or.inr ⟨l, Nat.le_refl _, by omega, a2, e, fun q b1 b2 => a3 q (by omega) b2⟩
      · exact Or.inr ⟨i, by omega, a3⟩
theorem bd_c1 {g1 g2 g3 g5 : Int32} : ∀ (j l f : Nat), l + j = 100 → j < f → (x_bound_41 2000 I x c g1 g2 g3 1 g5 f (nI l) = some (.inr (nI 100)) ∧ ∀ i, i < j → I (x + 134) i = 0) ∨ ∃ i, i < j ∧ x_bound_41 2000 I x c g1 g2 g3 1 g5 f (nI l) = some (.inl (nI i, I)) ∧ I (x + 134) i ≠ 0 ∧ ∀ q, i < q → q < j → I (x + 134) q = 0 := by
  intro j
  induction j with
  | zero =>
    intro l f hl hf
    obtain ⟨f, rfl⟩ : ∃ f', f = f' + 1 := ⟨f - 1, by omega⟩
    obtain rfl : l = 100 := by omega
    rw [x_bound_41, if_pos (by decide)]
    exact Or.inl ⟨rfl, fun i hi => absurd hi (by omega)⟩
  | succ j ih =>
    intro l f hl hf
    obtain ⟨f, rfl⟩ : ∃ f', f = f' + 1 := ⟨f - 1, by omega⟩
    rw [x_bound_41, if_neg (n99lt (by omega)), if_neg (show ¬ (1 : Int32) = 0 by decide), show (99 : Int32) - nI l = nI (99 - l) from nI_SB (a := 99) (b := l) (by omega), show 99 - l = j by omega]
    try dsimp only
    rw [chk_nI (k := j) (N := 100) (by omega) (by decide), nI_cl (show j < 2147483648 by omega), nI_1]
    by_cases e : I (x + 134) j = 0
    · rw [if_pos e]
      rcases ih (l + 1) f (by omega) (by omega) with ⟨a1, a2⟩ | ⟨i, a1, a2, a3, a4⟩
      · refine Or.inl ⟨a1, fun i hi => ?_⟩
        by_cases ei : i = j
        · subst ei; exact e
        · exact a2 i (by omega)
      · refine Or.inr ⟨i, by omega, a2, a3, fun q b1 b2 => ?_⟩
        by_cases ei : q = j
        · subst ei; exact e
        · exact a4 q b1 (by omega)
    · rw [if_neg e]
      exact Or.inr ⟨j, by omega, rfl, e, fun q b1 b2 => absurd b1 (by omega)⟩
theorem bound_call (hsr : isSR T P x) (h : InvS T I J P x nn c Iz Jz z N n u tn LT LP d na v) (hN : N < 600) (a b w y : Int32) : ∃ r I2 Iz2, x_bound 2000 T I J P x c a b w y = some (r, I2) ∧ r_bound 2000 Iz Jz z a b w y = some (r, Iz2) ∧ Unq I I2 x c Iz Iz2 z := by
  have hcx := (h.1 c (Or.inl rfl)).1.1
  unfold x_bound r_bound r_isWhat
  try dsimp only
  rcases arg_cases y 2 (by decide) with hw | ⟨y, hy, rfl⟩
  · rw [show r_within (Int32.toInt64 y) 0 1 = 0 from within_bad (n := 2) (by decide) hw, isb_0, Option.bind_some]
    try dsimp only
    rw [if_pos rfl]
    rcases hw with hw | hw
    · rw [if_pos hw]
      exact ⟨_, _, _, rfl, rfl, unq_0⟩
    · have h1 : ¬ y < 0 := fun cc => by
        have e1 := Int32.lt_iff_toInt_lt.mp cc
        have e2 := Int32.le_iff_toInt_le.mp hw
        have e3 : (nI 2).toInt = 2 := by decide
        have e4 : (0 : Int32).toInt = 0 := by decide
        omega
      have h2 : ¬ y ≤ 1 := fun cc => by
        have e1 := Int32.le_iff_toInt_le.mp cc
        have e2 := Int32.le_iff_toInt_le.mp hw
        have e3 : (nI 2).toInt = 2 := by decide
        have e4 : (1 : Int32).toInt = 1 := by decide
        omega
      rw [if_neg h1, if_neg h2]
      exact ⟨_, _, _, rfl, rfl, unq_0⟩
  · rw [show r_within (Int32.toInt64 (nI y)) 0 1 = 1 from within_ok (n := 2) (by decide) hy, isb_1, Option.bind_some]
    try dsimp only
    rw [if_neg (show ¬ (1 : Int32) = 0 by decide), if_neg (show ¬ nI y < 0 from nI_nlt (b := 0) (by omega) (by omega)), if_pos (show nI y ≤ 1 from nI_le (b := 1) (by omega) (by omega))]
    obtain ⟨r, I1, e1, e2, r1, r2, r3⟩ := readRooms_is h a b w
    rw [e1, e2, Option.bind_some, Option.bind_some]
    try dsimp only
    by_cases hw : r = 0
    · obtain ⟨t, p, m, k, tl, rfl, rfl, rfl, hk, hp, hu, hNg⟩ := r3 hw
      subst hw
      rw [if_pos rfl, if_pos rfl]
      obtain ⟨s, Ib, Izb, I2, Iz2, a1, a2, a3, a4, a5, a6, a7, a8⟩ := findRooms_is hsr h hN r1 r2 hp hk hNg
      rw [a1, a2, Option.bind_some, Option.bind_some]
      try dsimp only
      by_cases y0 : y = 0
      · subst y0
        rcases bd_0 (c := c) (g1 := nI t) (g2 := nI p) (g3 := nI k) (g5 := 0) (h1 := nI t) (h2 := nI p) (h3 := nI k) (h5 := 0) a8 100 0 2000 2000 (by omega) (by omega) (by omega) with ⟨b1, b2⟩ | ⟨b, b1, b2⟩
        · have b1 : x_bound_41 2000 I2 x c (nI t) (nI p) (nI k) (nI 0) 0 2000 0 = _ := b1
          have b2 : r_bound_47 2000 Iz2 z (nI t) (nI p) (nI k) (nI 0) 0 2000 (-1) 0 = _ := b2
          rw [b1, b2, Option.bind_some, Option.bind_some]
          exact ⟨_, _, _, rfl, rfl, a4.unq hcx a5 a6⟩
        · have b1 : x_bound_41 2000 I2 x c (nI t) (nI p) (nI k) (nI 0) 0 2000 0 = _ := b1
          have b2 : r_bound_47 2000 Iz2 z (nI t) (nI p) (nI k) (nI 0) 0 2000 (-1) 0 = _ := b2
          rw [b1, b2, Option.bind_some, Option.bind_some]
          exact ⟨_, _, _, rfl, rfl, a4.unq hcx a5 a6⟩
      · obtain rfl : y = 1 := by omega
        obtain ⟨b', q1, q2⟩ := bd_r1 (Iz := Iz2) (z := z) (h1 := nI t) (h2 := nI p) (h3 := nI k) (h5 := 0) 100 0 2000 (-1) (by omega) (by omega)
        have q1 : r_bound_47 2000 Iz2 z (nI t) (nI p) (nI k) (nI 1) 0 2000 (-1) 0 = _ := q1
        rcases bd_c1 (I := I2) (x := x) (c := c) (g1 := nI t) (g2 := nI p) (g3 := nI k) (g5 := 0) 100 0 2000 (by omega) (by omega) with ⟨b1, b2⟩ | ⟨i, b0, b1, b2, b3⟩
        · have b1 : x_bound_41 2000 I2 x c (nI t) (nI p) (nI k) (nI 1) 0 2000 0 = _ := b1
          rw [b1, q1, Option.bind_some, Option.bind_some]
          rcases q2 with ⟨rfl, -⟩ | ⟨i, -, c1, -, c2, -⟩
          · exact ⟨_, _, _, rfl, rfl, a4.unq hcx a5 a6⟩
          · exact absurd ((a8 i c1).symm.trans (b2 i c1)) c2
        · have b1 : x_bound_41 2000 I2 x c (nI t) (nI p) (nI k) (nI 1) 0 2000 0 = _ := b1
          rw [b1, q1, Option.bind_some, Option.bind_some]
          rcases q2 with ⟨-, c2⟩ | ⟨i', -, c1, rfl, c2, c3⟩
          · exact absurd ((a8 i b0).trans (c2 i (by omega) b0)) b2
          · have : i = i' := by
              by_cases l1 : i < i'
              · exact absurd ((a8 i' c1).symm.trans (b3 i' l1 c1)) c2
              by_cases l2 : i' < i
              · exact absurd ((a8 i b0).trans (c3 i l2 b0)) b2
              omega
            subst this
            exact ⟨_, _, _, rfl, rfl, a4.unq hcx a5 a6⟩
    · rw [if_neg hw, if_neg hw]
      exact ⟨_, _, _, rfl, rfl, unq_r r1 r2⟩
end
