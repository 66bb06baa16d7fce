/-! all lines, on both sides -/
section
variable {x z sz c : Nat} {b : Nat → Nat} {Iz : Nat → Nat → Int32} {t a e m n ln : Nat}
theorem be_ends {I : Nat → Nat → Int32} (h : Be x z I Iz) : ∃ Iz1, r_ends 2000 Iz z = some Iz1 ∧ Be x z I Iz1 ∧ Flr Iz Iz1 z := by
  unfold r_ends
  rw [h.eats, Option.bind_some]
  try dsimp only
  rw [if_pos rfl, h.fails, Option.bind_some]
  exact ⟨_, rfl, h.putz, Flr.u⟩
theorem ends_go {nn : Nat} {T : Nat → Option (Nat × Nat)} {I : Nat → Nat → Int32} {J : Nat → Nat → Int64} {P : Nat → Nat → Option Nat} (hL : LI x z sz b c (nn, T, I, J, P) Iz t a e m n ln) : ∃ r I1 Iz1, rd_endOfLine 2000 I x c = some (r, I1) ∧ r_ends 2000 Iz z = some Iz1 ∧ LF x c (nn, T, I, J, P) (nn, T, I1, J, P) ∧ Flr Iz Iz1 z ∧ ((r = 0 ∧ Be x z I1 Iz1) ∨ (r = 1 ∧ ∃ t1 a1 e1, LI x z sz b c (nn, T, I1, J, P) Iz1 t1 a1 e1 m n (ln + 1) ∧ a < a1)) := by
  obtain ⟨hk, hp, ⟨b1, b2', b3, b4⟩, hd, ⟨l1, l2⟩, d0, d1⟩ := hL
  have b3 : c + 8 ≤ nn := b3
  have hp : Ps x z sz b I Iz t a e m n := hp
  have hd : Dr I c (Iz (z + 4)) := hd
  have hln : I c 3 = nI ln := by rw [← l1]; exact hd.1.2.2.2.1
  unfold rd_endOfLine r_ends
  try dsimp only
  rw [hln, nI_1]
  obtain ⟨p1, p2, p3, p4, p5⟩ := hp.tk
  have hp1 : Ps x z sz b (uI I c 3 (nI (ln + 1))) Iz t a e m n := hp.putc (r := 0) b4
  have f0 : Fl I (uI I c 3 (nI (ln + 1))) x c := Fl.u (r := 0) (by omega) b4
  have e0 : Int32.toNatClampNeg 0 = 0 := rfl
  rcases expect_ge (u := 4) hp1 (by decide) (by decide) with ⟨c1, t2, a2, e2, I2, Iz2, j1, j2, j3, j4, j5, j6, j7, j8⟩ | ⟨c1, I2, Iz2, j1, j2, j3, j4, j5, j6, j7⟩
  case inr =>
    have j1 : rd_expect 2000 (uI I c 3 (nI (ln + 1))) x 59 = _ := j1
    have j2 : r_eats 2000 Iz z 30 = _ := j2
    rw [j1, j2, Option.bind_some, Option.bind_some]
    try dsimp only
    rw [isb_out (Or.inl rfl), if_pos rfl, j3, Option.bind_some]
    exact ⟨_, _, _, rfl, rfl, LF.fl (f0.tr j5.fl), j6.fl.tr Flr.u, Or.inl ⟨rfl, j4.putz⟩⟩
  have j1 : rd_expect 2000 (uI I c 3 (nI (ln + 1))) x 59 = _ := j1
  have j2 : r_eats 2000 Iz z 30 = _ := j2
  have hae := p5 (by omega)
  rw [j1, j2, Option.bind_some, Option.bind_some]
  try dsimp only
  rw [isb_out (Or.inr rfl), if_neg (show ¬ (1 : Int32) = 0 by decide), e0, j6, l1, nI_1]
  have fl := f0.tr j7.fl
  have hD2 : Dr (uI I c 3 (nI (ln + 1))) c (upd (Iz (z + 4)) 0 (nI (ln + 1))) := hd.cnt (i := 3) (k := 0) (w := ln) hln (by omega)
  have hD3 : Dr I2 c ((uI Iz2 (z + 4) 0 (nI (ln + 1))) (z + 4)) := by
    rw [uI_s, j6]
    exact hD2.keep (fun q h1 h2 => j7.1 q (by omega) (by omega))
  have cz : ∀ k, k ≠ 0 → (uI Iz2 (z + 4) 0 (nI (ln + 1))) (z + 4) k = Iz (z + 4) k := fun k hk => by rw [uI_k _ _ _ _ _ hk, j6]
  have rows : ∀ q, c + 8 ≤ q → q < nn → T q = T q ∧ I2 q = I q := fun q h1 h2 => ⟨rfl, fl.1 q (by omega) (by omega) (by omega)⟩
  refine ⟨_, _, _, rfl, rfl, LF.fl fl, j8.fl.tr Flr.u, Or.inr ⟨rfl, t2, a2, e2, ⟨hk, j3.putz (by omega), ⟨by omega, fun k h1 h2 => (cz k (by omega)).trans (b2' k h1 h2), b3, b4⟩, hD3, ⟨uI_e _ _ _ _, by omega⟩, ?_, ?_⟩, by omega⟩⟩
  · exact LawD.mv (by omega) d0 rows rfl (Nat.le_refl _) ⟨cz _ (by omega), cz _ (by omega), cz _ (by omega)⟩ (fun k _ => cz _ (by omega)) (Nat.le_refl _)
  · exact LawD.mv (by omega) d1 rows rfl (Nat.le_refl _) ⟨cz _ (by omega), cz _ (by omega), cz _ (by omega)⟩ (fun k _ => cz _ (by omega)) (Nat.le_refl _)
theorem be_70 {I : Nat → Nat → Int32} {v : Int32} {f : Nat} (h : Be x z I Iz) : r_court_70 2000 z v (f + 1) Iz = some Iz := by rw [r_court_70, if_neg h.ne]
/-- what the reading comes to -/
def Rgo (x z sz : Nat) (b : Nat → Nat) (c : Nat) (h : HT) (Iz : Nat → Nat → Int32) (a : Nat) (r : Int32 × HT × Nat × Nat) (Iz1 : Nat → Nat → Int32) : Prop := LF x c h r.2.1 ∧ Flr Iz Iz1 z ∧ a + r.2.2.1 ≤ sz ∧ a + r.2.2.2 ≤ sz ∧ ((r.1 = 0 ∧ Be x z r.2.1.2.2.1 Iz1) ∨ (r.1 = 1 ∧ ∃ a1 e1 m1 n1 ln1, LI x z sz b c r.2.1 Iz1 0 a1 e1 m1 n1 ln1))
theorem loop0 {f : Nat} {i : Int32} {h : HT} : rcLoop 2000 x c (f + 1) 0 i h = some (0, h, 0, 0) := by
  rw [rcLoop]
  by_cases c1 : 900 ≤ i
  · rw [if_pos c1]
  · rw [if_neg c1, if_pos rfl]
theorem lines_go {v : Int32} : ∀ (j nn : Nat) (T : Nat → Option (Nat × Nat)) (I : Nat → Nat → Int32) (J : Nat → Nat → Int64) (P : Nat → Nat → Option Nat) (Iz : Nat → Nat → Int32) (t a e m n ln i f g : Nat), sz < a + j → j < f → j < g → i < a → LI x z sz b c (nn, T, I, J, P) Iz t a e m n ln → ∃ r Iz1, rcLoop 2000 x c f 1 (nI i) (nn, T, I, J, P) = some r ∧ r_court_70 2000 z v g Iz = some Iz1 ∧ Rgo x z sz b c (nn, T, I, J, P) Iz a r Iz1 := by
  intro j
  induction j with
  | zero =>
    intro nn T I J P Iz t a e m n ln i f g hj hf hg hi hL
    obtain ⟨p1, p2, p3, p4, p5⟩ := hL.2.1.tk
    omega
  | succ j ih =>
    intro nn T I J P Iz t a e m n ln i f g hj hf hg hi hL
    have hp : Ps x z sz b I Iz t a e m n := hL.2.1
    obtain ⟨p1, p2, p3, p4, p5⟩ := hp.tk
    obtain ⟨f, rfl⟩ : ∃ f', f = f' + 1 := ⟨f - 1, by omega⟩
    obtain ⟨g, rfl⟩ : ∃ f', g = f' + 1 := ⟨g - 1, by omega⟩
    rw [rcLoop, r_court_70, if_neg (show ¬ (900 : Int32) ≤ nI i from nI_ge (b := 900) (by omega) (by decide)), if_neg (show ¬ (1 : Int32) = 0 by decide), if_pos hp.ok]
    try dsimp only
    by_cases c1 : t = 0
    · rw [if_pos (show I (x + 2) 6 = 0 from hp.isc (u := 0) c1), if_pos (show Iz z 9 = 24 by rw [hp.kr, c1]; rfl)]
      subst c1
      exact ⟨_, _, rfl, rfl, LF.rf, Flr.rf, by show a + 0 ≤ sz; omega, by show a + 0 ≤ sz; omega, Or.inr ⟨rfl, a, e, m, n, ln, hL⟩⟩
    rw [if_neg (show ¬ I (x + 2) 6 = 0 from hp.nsc (u := 0) (by decide) c1), if_neg (show ¬ Iz z 9 = 24 from fun cc => c1 ((kr_inj t p1 0 (by decide)).mp (by rw [← hp.kr]; exact cc)))]
    have hae := p5 c1
    obtain ⟨q, Iz1, g1, g2, g3, g4, g5⟩ := line_go hL
    rw [g1, g2, Option.bind_some, Option.bind_some]
    try dsimp only
    rw [nI_1]
    obtain ⟨qr, ⟨n1, T1, I1, J1, P1⟩, qc, qs⟩ := q
    try dsimp only at *
    rcases g5 with ⟨g5, g6, g7, g8⟩ | ⟨g5, t1, a1, e1, m1, n1', g6, g7, g8, g9⟩
    · obtain ⟨Iz2, k1, k2, k3⟩ := be_ends g6
      obtain ⟨f, rfl⟩ : ∃ f', f = f' + 1 := ⟨f - 1, by omega⟩
      obtain ⟨g, rfl⟩ : ∃ f', g = f' + 1 := ⟨g - 1, by omega⟩
      rw [if_pos g5, loop0, k1, Option.bind_some, Option.bind_some]
      try dsimp only
      rw [be_70 k2]
      exact ⟨_, _, rfl, rfl, g3, g4.tr k3, by show a + (qc + 0) ≤ sz; omega, by show a + (qs + 0) ≤ sz; omega, Or.inl ⟨rfl, k2⟩⟩
    · rw [if_neg (by rw [g5]; decide)]
      have hp1 : Ps x z sz b I1 Iz1 t1 a1 e1 m1 n1' := g6.2.1
      obtain ⟨q1, q2, q3, q4, q5⟩ := hp1.tk
      obtain ⟨r, I2, Iz2, k1, k2, k3, k4, k5⟩ := ends_go g6
      rw [k1, k2, Option.bind_some, Option.bind_some]
      try dsimp only
      rcases k5 with ⟨k5, k6⟩ | ⟨k5, t2, a2, e2, k6, k7⟩
      · obtain ⟨f, rfl⟩ : ∃ f', f = f' + 1 := ⟨f - 1, by omega⟩
        obtain ⟨g, rfl⟩ : ∃ f', g = f' + 1 := ⟨g - 1, by omega⟩
        rw [if_pos k5, loop0, be_70 k6, Option.bind_some]
        exact ⟨_, _, rfl, rfl, g3.tr k3, g4.tr k4, by show a + (qc + 0) ≤ sz; omega, by show a + (qs + 0) ≤ sz; omega, Or.inl ⟨rfl, k6⟩⟩
      · obtain ⟨r', Iz3, i1, i2, i3, i4, i5, i6, i7⟩ := ih n1 T1 I2 J1 P1 Iz2 t2 a2 e2 m1 n1' (ln + 1) (i + 1) f g (by omega) (by omega) (by omega) (by omega) k6
        rw [if_neg (by rw [k5]; decide), i1, i2, Option.bind_some]
        exact ⟨_, _, rfl, rfl, (g3.tr k3).tr i3, (g4.tr k4).tr i4, by show a + (qc + r'.2.2.1) ≤ sz; omega, by show a + (qs + r'.2.2.2) ≤ sz; omega, i7⟩
end
