/-! next -/
theorem min_two (a b : Int32) : (if a ≤ b then a else b) = imin b a := by
  unfold imin
  by_cases h : a < b
  · rw [if_pos h, if_pos (Int32.le_iff_toInt_le.mpr (by have := Int32.lt_iff_toInt_lt.mp h; omega))]
  · rw [if_neg h]
    by_cases h2 : a ≤ b
    · rw [if_pos h2]
      exact Int32.toInt_inj.mp (by
        have e1 := Int32.le_iff_toInt_le.mp h2
        have e2 : ¬ a.toInt < b.toInt := fun cc => h (Int32.lt_iff_toInt_lt.mpr cc)
        omega)
    · rw [if_neg h2]
section
variable {T : Nat → Option (Nat × Nat)} {I : Nat → Nat → Int32} {J : Nat → Nat → Int64} {P : Nat → Nat → Option Nat} {x nn a c : Nat} {Iz : Nat → Nat → Int32} {Jz : Nat → Nat → Int64} {z N n u tn : Nat} {LT LP : Row → Int32} {d na v e : Nat}
/-- how one is tired on a State and on the row -/
theorem sm_tire {p : Nat} (t : Nat) {w : Bool} (hS : Sm T I P a c Iz z n u tn LT LP e w) (hp : p < n) : ∃ r I1 Iz1, ct_tiring 2000 T I P c a (nI p) (nI t) = some (r, I1) ∧ r_tiresOf 2000 Iz z (nI p) (nI t) = some (r, Iz1) ∧ Sm T I1 P a c Iz1 z n u tn LT LP e w ∧ Fx I I1 a c ∧ Fr Iz Iz1 z := by
  obtain ⟨h1, h2, h3, h4, h5, h6, h7, h8⟩ := hS
  have hn := h1.1
  have hac := h7.1
  obtain ⟨I1, f1, f3, f5, f6, q1⟩ := lookAtMinute_is (t := nI t) h1 h5 hac
  obtain ⟨I2, f2, g2, q2⟩ := lookAtPerson_is (t := t) h1 (h5.same (fun q h1 h2 => q1 q (by omega))) hac hp (by rw [q1 _ (by omega)]; exact (h4.1.2.2.2.2.1 p (by omega)).2) f3 f5 f6
  have hC := h4.same (I' := I2) (fun q h1 h2 => by rw [q2 q (by omega), q1 q (by omega)]) (fun w hw => by have := h7.2 w hw; rw [q2 _ (by omega), q1 _ (by omega)])
  obtain ⟨I3, f4, q3⟩ := lossNow_is (a := a) hC.2.1 hC.2.2.2.2.2.1 hC.2.2.2.2.2.2 h7
  obtain ⟨Iz1, k1, k2⟩ := r_tiresOf_is (I := Iz) (z := z) (L := LT) t h1 hp h2
  have fx : Fx I I3 a c := fun q b1 b5 b6 b7 => by rw [q3 q b6, q2 q b5, q1 q b5]
  have fr : Fr Iz Iz1 z := ⟨fun q b1 b5 b6 b8 b9 => k2 q b5 b6, fun k hk => by rw [k2 _ (by omega) (by omega)]⟩
  have er : Iz1 (z + 1) = Iz (z + 1) := k2 _ (by omega) (by omega)
  refine ⟨_, I3, Iz1, ?_, k1, ?_, fx, fr⟩
  · unfold ct_tiring
    rw [f1, Option.bind_some]
    try dsimp only
    rw [f2, Option.bind_some]
    try dsimp only
    rw [f4, Option.bind_some, hC.2.2.2.1 _ _ g2]
  · unfold Sm
    rw [er]
    exact ⟨h1, h2, h3, hC.same (fun q h1 h2 => q3 q (by omega)) (fun w hw => by have := h7.2 w hw; exact q3 _ (by omega)), h5.same (fun q b1 b2 => by rw [q3 q (by omega), q2 q (by omega), q1 q (by omega)]), h6, h7, h8⟩
theorem how_go (hcx : c = x + 4 ∨ x + 224 ≤ c) {p t : Nat} (hp : p < n) {g1 g3 g4 g5 g6 g7 : Int32} : ∀ (j l f g s : Nat) (I1 Iz1 : Nat → Nat → Int32), l + j = 100 → j < f → j < g → s ≤ l → Sm T I1 P (x + 101) c Iz1 z n u tn LT LP e true → (∀ i, i < 100 → I1 (x + 134) i = Iz1 (z + 14) i) →
    ∃ s' I2 Iz2, x_howManySit_16 2000 T P x c (nI p) (nI t) f (nI s) (nI l) I1 = some (nI s', nI 100, I2) ∧ r_next_66 2000 z g1 (nI p) g3 g4 g5 g6 g7 (nI t) g (nI s) (nI l) Iz1 = some (nI s', nI 100, Iz2) ∧ Fx I1 I2 (x + 101) c ∧ Fr Iz1 Iz2 z := by
  intro j
  induction j with
  | zero =>
    intro l f g s I1 Iz1 hl hf hg hs hS hR
    obtain ⟨f, rfl⟩ : ∃ f', f = f' + 1 := ⟨f - 1, by omega⟩
    obtain ⟨g, rfl⟩ : ∃ f', g = f' + 1 := ⟨g - 1, by omega⟩
    obtain rfl : l = 100 := by omega
    refine ⟨s, I1, Iz1, ?_, ?_, Fx.rf, Fr.rf⟩
    · rw [x_howManySit_16, if_pos (by decide)]
    · rw [r_next_66, if_pos (by decide)]
  | succ j ih =>
    intro l f g s I1 Iz1 hl hf hg hs hS hR
    obtain ⟨f, rfl⟩ : ∃ f', f = f' + 1 := ⟨f - 1, by omega⟩
    obtain ⟨g, rfl⟩ : ∃ f', g = f' + 1 := ⟨g - 1, by omega⟩
    have hn := hS.1.1
    obtain ⟨S3, fx3, fr3⟩ := sm_str (a := x + 101) hS hp (nI l)
    have z0 : ∀ b : Int32, b + 0 = b := fun b => Int32.add_zero b
    have R3 : ∀ i, i < 100 → uI I1 (x + 101 + 1) p (nI l) (x + 134) i = uI Iz1 (z + 1) (41 + p) (nI l) (z + 14) i := fun i hi => by rw [uI_o _ _ _ _ _ _ (by omega), uI_o _ _ _ _ _ _ (by omega)]; exact hR i hi
    rw [x_howManySit_16, if_neg (n99lt (by omega)), chk_nI (k := p) (N := 6) (by omega) (by decide), nI_cl (show p < 2147483648 by omega)]
    try dsimp only
    rw [chk_nI (k := l) (N := 100) (by omega) (by decide), r_next_66, if_neg (n99lt (by omega)), show (41 : Int32) + nI p = nI (41 + p) from nI_add 41 p, chk_nI (k := 41 + p) (N := 3891) (by omega) (by decide), nI_cl (show 41 + p < 2147483648 by omega)]
    try dsimp only
    rw [chk_nI (k := l) (N := 100) (by omega) (by decide), nI_cl (show l < 2147483648 by omega), nI_1, z0]
    by_cases e0 : uI Iz1 (z + 1) (41 + p) (nI l) (z + 14) l = 0
    · rw [if_pos (show uI I1 (x + 101 + 1) p (nI l) (x + 134) l = 0 by rw [R3 l (by omega)]; exact e0), if_pos e0]
      obtain ⟨s', I2, Iz2, a1, a2, a3, a4⟩ := ih (l + 1) f g s _ _ (by omega) (by omega) (by omega) (by omega) S3 R3
      exact ⟨s', I2, Iz2, a1, a2, fx3.tr a3, fr3.tr a4⟩
    · rw [if_neg (show ¬ uI I1 (x + 101 + 1) p (nI l) (x + 134) l = 0 by rw [R3 l (by omega)]; exact e0), if_neg e0]
      obtain ⟨r, I4, Iz4, m1, m2, S4, fx4, fr4⟩ := sm_tire t S3 hp
      have R4 : ∀ i, i < 100 → I4 (x + 134) i = Iz4 (z + 14) i := fun i hi => by rw [fx4 _ (by omega) (by omega) (by omega) (by omega), fr4.1 _ (by omega) (by omega) (by omega) (by omega) (by omega)]; exact R3 i hi
      rw [m1, m2, Option.bind_some, Option.bind_some]
      try dsimp only
      by_cases er : r ≤ nI l
      · rw [if_pos er, if_pos er]
        obtain ⟨s', I2, Iz2, a1, a2, a3, a4⟩ := ih (l + 1) f g s _ _ (by omega) (by omega) (by omega) (by omega) S4 R4
        exact ⟨s', I2, Iz2, a1, a2, (fx3.tr fx4).tr a3, (fr3.tr fr4).tr a4⟩
      · rw [if_neg er, if_neg er, nI_1]
        obtain ⟨s', I2, Iz2, a1, a2, a3, a4⟩ := ih (l + 1) f g (s + 1) _ _ (by omega) (by omega) (by omega) (by omega) S4 R4
        exact ⟨s', I2, Iz2, a1, a2, (fx3.tr fx4).tr a3, (fr3.tr fr4).tr a4⟩
theorem next_go (h : InvS T I J P x nn c Iz Jz z N n u tn LT LP d na v) (hN : N < 600) {t m p s : Nat} {tl : Nat → Nat} {g1 g3 g4 : Int32} (hp : p < n) (hs0 : 0 < s) (hs : s ≤ 100) : ∀ (j k f g : Nat) (b w : Int32) (I1 Iz1 : Nat → Nat → Int32), k + j = tn → j < f → j < g → Tx I I1 x c → Kz Iz Iz1 z → Ngt I1 x Iz1 Jz z t m tn tl → (∀ i, i < 100 → I1 (x + 134) i = Iz1 (z + 14) i) →
    ∃ b' w' I2 Iz2, x_next_41 2000 T P x c g1 (nI p) g3 g4 (nI s) f b w (nI k) I1 = some (b', w', nI tn, I2) ∧ r_next_44 2000 z g1 (nI p) g3 g4 (nI s) g b w (nI k) Iz1 = some (b', w', nI tn, Iz2) ∧ Tx I I2 x c ∧ Kz Iz Iz2 z := by
  have hcx := (h.1 c (Or.inl rfl)).1.1
  have hn := h.n6
  have ht4 := h.t4
  intro j
  induction j with
  | zero =>
    intro k f g b w I1 Iz1 hk hf hg hx hK hNg hR
    obtain ⟨f, rfl⟩ : ∃ f', f = f' + 1 := ⟨f - 1, by omega⟩
    obtain ⟨g, rfl⟩ : ∃ f', g = f' + 1 := ⟨g - 1, by omega⟩
    obtain rfl : k = tn := by omega
    refine ⟨b, w, I1, Iz1, ?_, ?_, hx, hK⟩
    · rw [x_next_41, hx.crt hcx (by omega), h.c1, if_pos (nI_le (Nat.le_refl _) (by omega))]
    · rw [r_next_44, show Int32.toNatClampNeg 2 = 2 from rfl, hK.2.1, h.z2, if_pos (nI_le (Nat.le_refl _) (by omega))]
  | succ j ih =>
    intro k f g b w I1 Iz1 hk hf hg hx hK hNg hR
    obtain ⟨f, rfl⟩ : ∃ f', f = f' + 1 := ⟨f - 1, by omega⟩
    obtain ⟨g, rfl⟩ : ∃ f', g = f' + 1 := ⟨g - 1, by omega⟩
    rw [x_next_41, hx.crt hcx (by omega), h.c1, if_neg (nI_ge (by omega) (by omega)), r_next_44, show Int32.toNatClampNeg 2 = 2 from rfl, hK.2.1, h.z2, if_neg (nI_ge (by omega) (by omega)), if_neg (show ¬ nI s ≤ 0 from nI_nle (by omega) (by omega))]
    obtain ⟨e, I2, c1, he, S, hN2, xq, x8⟩ := trial_is (I0 := I) h (Iz1 := Iz1) hx.1 hx.2 hNg hK.2.1
    have R2 : ∀ i, i < 100 → I2 (x + 134) i = Iz1 (z + 14) i := fun i hi => by rw [xq _ (by omega) (by omega) (by omega) (by omega) (by omega) (by omega), ← hx.1 _ (by omega) (by omega) (by omega) (by omega) (by omega) (by omega)]; exact hR i hi
    obtain ⟨s', I3, Iz3, a1, a2, fx, fr⟩ := how_go (g1 := g1) (g3 := g3) (g4 := g4) (g5 := nI s) (g6 := b) (g7 := w) (t := k) hcx hp 100 0 2000 2000 0 I2 Iz1 (by omega) (by omega) (by omega) (by omega) S R2
    have a1 : x_howManySit_16 2000 T P x c (nI p) (nI k) 2000 0 0 I2 = _ := a1
    have a2 : r_next_66 2000 z g1 (nI p) g3 g4 (nI s) b w (nI k) 2000 0 0 Iz1 = _ := a2
    obtain ⟨Iz4, k2, K2⟩ := kz_back hK fr
    have hx3 : Tx I I3 x c := gone_x hcx xq x8 fx
    have hN3 : Ngt I3 x Iz4 Jz z t m tn tl := (hN2.go hcx (by omega) fx fr).fx rfl rfl (by rw [K2.n19, ← hK.n19, ← fr.1 _ (by omega) (by omega) (by omega) (by omega) (by omega)])
    have R3 : ∀ i, i < 100 → I3 (x + 134) i = Iz4 (z + 14) i := fun i hi => by rw [fx _ (by omega) (by omega) (by omega) (by omega), K2.2.2.1 _ (by omega) (by omega) (by omega) (by omega) (by omega) (by omega), ← hK.2.2.1 _ (by omega) (by omega) (by omega) (by omega) (by omega) (by omega)]; exact R2 i hi
    have ex : x_howManySit 2000 T I1 P x c (nI p) (nI k) = some (nI s', I3) := by
      unfold x_howManySit
      rw [c1, Option.bind_some]
      try dsimp only
      rw [a1, Option.bind_some]
    rw [ex, Option.bind_some]
    try dsimp only
    rw [a2, Option.bind_some]
    try dsimp only
    rw [k2, Option.bind_some]
    try dsimp only
    rw [nI_1]
    have em := min_two (nI s - nI s') (nI s')
    generalize hq : imin (nI s') (nI s - nI s') = q at *
    by_cases cq : q ≤ w
    · rw [if_pos cq]
      obtain ⟨b', w', I5, Iz5, y1, y2, y3⟩ := ih (k + 1) f g b w I3 Iz4 (by omega) (by omega) (by omega) hx3 K2 hN3 R3
      refine ⟨b', w', I5, Iz5, y1, ?_, y3⟩
      have nq : ¬ w < q := fun cc => by
        have e1 := Int32.le_iff_toInt_le.mp cq
        have e2 := Int32.lt_iff_toInt_lt.mp cc
        omega
      by_cases c2 : nI s - nI s' ≤ nI s'
      · rw [if_pos c2] at em
        rw [if_pos c2, if_neg (show ¬ w < nI s - nI s' by rw [em]; exact nq)]
        exact y2
      · rw [if_neg c2] at em
        rw [if_neg c2, if_neg (show ¬ w < nI s' by rw [em]; exact nq)]
        exact y2
    · rw [if_neg cq]
      obtain ⟨b', w', I5, Iz5, y1, y2, y3⟩ := ih (k + 1) f g (nI k) q I3 Iz4 (by omega) (by omega) (by omega) hx3 K2 hN3 R3
      refine ⟨b', w', I5, Iz5, y1, ?_, y3⟩
      have nq : w < q := Int32.lt_iff_toInt_lt.mpr (by
        have e1 : ¬ q.toInt ≤ w.toInt := fun cc => cq (Int32.le_iff_toInt_le.mpr cc)
        omega)
      by_cases c2 : nI s - nI s' ≤ nI s'
      · rw [if_pos c2] at em
        rw [if_pos c2, if_pos (show w < nI s - nI s' by rw [em]; exact nq), em]
        exact y2
      · rw [if_neg c2] at em
        rw [if_neg c2, if_pos (show w < nI s' by rw [em]; exact nq)]
        rw [em]
        exact y2
theorem next_call (hsr : isSR T P x) (h : InvS T I J P x nn c Iz Jz z N n u tn LT LP d na v) (hN : N < 600) (a b w : Int32) : ∃ r I2 Iz2, x_next 2000 T I J P x c a b w = some (r, I2) ∧ r_next 2000 Iz Jz z a b w = some (r, Iz2) ∧ Unq I I2 x c Iz Iz2 z := by
  have hcx := (h.1 c (Or.inl rfl)).1.1
  have ht4 := h.t4
  obtain ⟨r, I1, e1, e2, r1, r2, r3⟩ := readRooms_is h a b w
  unfold x_next r_next
  try dsimp only
  rw [e1, e2, Option.bind_some, Option.bind_some]
  try dsimp only
  by_cases hw : r = 0
  · obtain ⟨t, p, m, k, tl, rfl, rfl, rfl, hk, hp, hu, hNg⟩ := r3 hw
    subst hw
    rw [if_pos rfl, if_pos rfl]
    obtain ⟨s, Ib, Izb, I2, Iz2, a1, a2, a3, a4, a5, a6, a7, a8⟩ := findRooms_is hsr h hN r1 r2 hp hk hNg
    rw [a1, a2, Option.bind_some, Option.bind_some]
    try dsimp only
    obtain ⟨Iz3, f1, f2, f3⟩ := r_keeps_is (I := Iz2) (z := z)
    have K3 : Kz Izb Iz3 z := ⟨fun k hk => by rw [f2 k hk, a6.2.1], by rw [f3 _ (by omega), a6.2.1], fun q b0 b5 b6 b7 b8 b9 => by rw [f3 q b7, a6.2.2.1 q b0 b5 b6 b7 b8 b9], fun k hk => by rw [f3 _ (by omega), a6.2.2.2 k hk]⟩
    have hN3 : Ngt I2 x Iz3 Jz z t m tn tl := a7.fx rfl rfl (f3 _ (by omega))
    have R3 : ∀ i, i < 100 → I2 (x + 134) i = Iz3 (z + 14) i := fun i hi => by rw [f3 _ (by omega)]; exact a8 i hi
    have hI := a4.inv hsr h
    rw [f1, Option.bind_some]
    try dsimp only
    by_cases s0 : s = 0
    · subst s0
      rw [if_pos (show nI 0 = 0 from rfl)]
      have er : r_next_44 2000 z (nI t) (nI p) (nI k) 0 (nI 0) 2000 (-1) (-1) 0 Iz3 = some (-1, -1, 0, Iz3) := by
        rw [r_next_44, if_pos (show nI 0 ≤ 0 by decide)]
        exact ite_self _
      rw [er, Option.bind_some]
      exact ⟨_, _, _, rfl, rfl, a4.unq hcx a5 K3⟩
    · rw [if_neg (show ¬ nI s = 0 from fun cc => s0 ((nI_eq (b := 0) (by omega) (by omega)).mp cc))]
      obtain ⟨b', w', I5, Iz5, y1, y2, y3, y4⟩ := next_go hI hN (g1 := nI t) (g3 := nI k) (g4 := 0) hp (by omega) a3 tn 0 2000 2000 (-1) (-1) I2 Iz3 (by omega) (by omega) (by omega) a5 K3 hN3 R3
      have y1 : x_next_41 2000 T P x c (nI t) (nI p) (nI k) 0 (nI s) 2000 (-1) (-1) 0 I2 = _ := y1
      have y2 : r_next_44 2000 z (nI t) (nI p) (nI k) 0 (nI s) 2000 (-1) (-1) 0 Iz3 = _ := y2
      rw [y1, y2, Option.bind_some, Option.bind_some]
      exact ⟨_, _, _, rfl, rfl, a4.unq hcx y3 y4⟩
  · rw [if_neg hw, if_neg hw]
    exact ⟨_, _, _, rfl, rfl, unq_r r1 r2⟩
end
