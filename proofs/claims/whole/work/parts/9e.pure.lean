/-! the lines -/
theorem Dr.keep {I I1 : Nat → Nat → Int32} {c : Nat} {A : Row} (h : Dr I c A) (e : ∀ q, c ≤ q → q ≤ c + 4 → I1 q = I q) : Dr I1 c A := by
  obtain ⟨⟨h0, h1, h2, h3, h4, h5, h6⟩, np, nt, no, ln, hb, k0, k1, k2, k3⟩ := h
  have e0 := e c (by omega) (by omega)
  refine ⟨⟨by rw [e0]; exact h0, by rw [e0]; exact h1, by rw [e0]; exact h2, by rw [e0]; exact h3, fun p hp => by rw [e (c + 1) (by omega) (by omega), e (c + 2) (by omega) (by omega)]; exact h4 p hp, fun t ht => by rw [e (c + 3) (by omega) (by omega)]; exact h5 t ht, fun k hk => by rw [e (c + 4) (by omega) (by omega)]; exact h6 k hk⟩, np, nt, no, ln, hb, by rw [e0]; exact k0, by rw [e0]; exact k1, by rw [e0]; exact k2, by rw [e0]; exact k3⟩
theorem Dr.put {I : Nat → Nat → Int32} {c : Nat} {A : Row} {r i k : Nat} {v : Int32} (h : Dr I c A) (hr : 1 ≤ r ∧ r ≤ 4) (hm : (r = 1 ∧ i < 6 ∧ k = 10 + i) ∨ (r = 2 ∧ i < 6 ∧ k = 16 + i) ∨ (r = 3 ∧ i < 4 ∧ k = 22 + i) ∨ (r = 4 ∧ i < 6 ∧ k = 26 + i)) (ho : (r = 3 → ∃ o, o ≤ 9 ∧ v = nI o) ∧ (r = 4 → 0 ≤ v.toInt ∧ v.toInt ≤ 99)) : Dr (uI I (c + r) i v) c (upd A k v) := by
  obtain ⟨h0, np, nt, no, ln, hb, k0, k1, k2, k3⟩ := h
  have hne : c ≠ c + r := by clear ho; omega
  refine ⟨h0.put (by clear ho; omega) ho.1 ho.2, np, nt, no, ln, hb, by rw [uI_row _ _ _ _ _ hne]; exact k0, by rw [uI_row _ _ _ _ _ hne]; exact k1, by rw [uI_row _ _ _ _ _ hne]; exact k2, by rw [uI_row _ _ _ _ _ hne]; exact k3⟩
section
variable {x z sz c : Nat} {b : Nat → Nat}
theorem Person_loop {g1 : Nat} (hx : x + 4 ≤ c) (hgm : g1 < 6) : ∀ (j : Nat) (I Iz : Nat → Nat → Int32) (t a e m n l2 f g : Nat), sz < a + j → j < f → j < g → l2 < a → Ps x z sz b I Iz t a e m n → Dr I c (Iz (z + 4)) → ∃ y Iz1, rd_readPerson_64 2000 x c (nI g1) f (nI l2) I = some y ∧ r_readPerson_59 2000 z (nI g1) g Iz = some Iz1 ∧ ((∃ I1, y = .inl (0, I1) ∧ LO x z sz b c I Iz a m n 0 I1 Iz1) ∨ (∃ l I1, y = .inr (l, I1) ∧ I1 c = I c ∧ LO x z sz b c I Iz a m n 1 I1 Iz1)) := by
  intro j
  induction j with
  | zero =>
    intro I Iz t a e m n l2 f g hj hf hg hl h hD
    obtain ⟨p1, p2, p3, p4, p5⟩ := h.tk
    omega
  | succ j ih =>
    intro I Iz t a e m n l2 f g hj hf hg hl h hD
    obtain ⟨p1, p2, p3, p4, p5⟩ := h.tk
    obtain ⟨f, rfl⟩ : ∃ f', f = f' + 1 := ⟨f - 1, by omega⟩
    obtain ⟨g, rfl⟩ : ∃ f', g = f' + 1 := ⟨g - 1, by omega⟩
    rw [rd_readPerson_64, r_readPerson_59, if_neg (show ¬ (900 : Int32) ≤ nI l2 from nI_ge (b := 900) (by omega) (by decide)), if_pos h.ok]
    unfold r_eats
    by_cases c1 : t = 17
    · have hae := p5 (by omega)
      obtain ⟨t1, a1, e1, I1, Iz1, g1', g2, g3, g4, g5, g6, g7, g8⟩ := tk_go h (by omega)
      rw [if_pos (show I (x + 2) 6 = 201 from h.isc c1), show r_is Iz z 3 = 1 from h.isr (u := 17) (by decide) c1, if_neg (show ¬ (1 : Int32) = 0 by decide), g1', g2, Option.bind_some, Option.bind_some]
      try dsimp only
      rw [Option.bind_some]
      try dsimp only
      rw [if_neg (show ¬ (1 : Int32) = 0 by decide)]
      have hD1 : Dr I1 c (Iz1 (z + 4)) := by rw [g6]; exact hD.keep (fun q h1 h2 => g7.1 q (by omega) (by omega))
      obtain ⟨q1, q2, q3, q4, q5⟩ := g3.tk
      rcases num_go (v := 9) g3 (by decide) with ⟨k1, w, k2, k3, k4, k5⟩ | ⟨I2, Iz2, u, k1, k2, k3, k4, k5⟩
      · have k4 : rd_isNUpTo I1 x 9 = _ := k4
        have hs1 : Ps x z sz b (uI I1 (c + 2) g1 (nI w)) Iz1 t1 a1 e1 m n := g3.putc hx
        obtain ⟨t2, a2, e2, I3, Iz3, s1, s2, s3, s4, s5, s6, s7, s8⟩ := tk_go hs1 (by omega)
        have k5 : r_takes 2000 Iz1 z 0 9 = _ := k5 Iz3 s2
        rw [k4, k5, Option.bind_some, Option.bind_some]
        try dsimp only
        rw [if_neg (show ¬ (1 : Int32) = 0 by decide), k3, chk_nI hgm (by decide), nI_cl (by omega), s1, Option.bind_some]
        try dsimp only
        rw [show (16 : Int32) + nI g1 = nI (16 + g1) from nI_add 16 g1, chk_nI (by omega) (by decide), nI_cl (by omega), nI_1]
        have q6 := q5 (by omega)
        have hs3 : Ps x z sz b I3 (uI Iz3 (z + 4) (16 + g1) (nI w)) t2 a2 e2 m n := s3.putz (by omega)
        have hD3 : Dr I3 c ((uI Iz3 (z + 4) (16 + g1) (nI w)) (z + 4)) := by
          rw [uI_s, s6]
          exact (hD1.put (r := 2) (i := g1) (k := 16 + g1) (v := nI w) (by omega) (by omega) ⟨fun cc => absurd cc (by decide), fun cc => absurd cc (by decide)⟩).keep (fun q h1 h2 => s7.1 q (by omega) (by omega))
        obtain ⟨y, Iz4, i1, i2, i3⟩ := ih I3 _ t2 a2 e2 m n (l2 + 1) f g (by omega) (by omega) (by omega) (by omega) hs3 hD3
        have fl : Fl I I3 x c := (g7.fl.tr (Fl.u (by omega) hx)).tr s7.fl
        have fr : Flr Iz (uI Iz3 (z + 4) (16 + g1) (nI w)) z := (g8.fl.tr s8.fl).tr Flr.u
        have cz : ∀ k, k = 0 ∨ (4 ≤ k ∧ k < 10) ∨ 32 ≤ k → (uI Iz3 (z + 4) (16 + g1) (nI w)) (z + 4) k = Iz (z + 4) k := fun k hk => by rw [uI_k _ _ _ _ _ (by omega), s6, g6]
        refine ⟨y, Iz4, i1, i2, ?_⟩
        rcases i3 with ⟨I5, i3, i4⟩ | ⟨l, I5, i3, i6, i4⟩
        · exact Or.inl ⟨I5, i3, i4.then fl fr cz (by omega)⟩
        · exact Or.inr ⟨l, I5, i3, by rw [i6, s7.1 c (by omega) (by omega), uI_row _ _ _ _ _ (by omega), g7.1 c (by omega) (by omega)], i4.then fl fr cz (by omega)⟩
      · have k1 : rd_isNUpTo I1 x 9 = _ := k1
        have k2 : r_takes 2000 Iz1 z 0 9 = _ := k2
        rw [k1, k2, Option.bind_some, Option.bind_some]
        try dsimp only
        obtain ⟨g, rfl⟩ : ∃ f', g = f' + 1 := ⟨g - 1, by omega⟩
        rw [if_pos rfl, show (16 : Int32) + nI g1 = nI (16 + g1) from nI_add 16 g1, chk_nI (by omega) (by decide), nI_cl (by omega), r_readPerson_59, if_neg (k3.putz (k := 16 + g1) (w := u)).ne]
        exact ⟨_, _, rfl, rfl, Or.inl ⟨_, rfl, g7.fl.tr k4.fl, (g8.fl.tr k5.fl).tr Flr.u, Or.inl ⟨rfl, k3.putz⟩⟩⟩
    · rw [if_neg (show ¬ I (x + 2) 6 = 201 from h.nsc (u := 17) (by decide) c1), show r_is Iz z 3 = 0 from h.nsr (u := 17) (by decide) c1, if_pos rfl, Option.bind_some]
      try dsimp only
      rw [if_pos rfl]
      exact ⟨_, _, rfl, rfl, Or.inr ⟨_, _, rfl, rfl, Fl.rf, Flr.rf, Or.inr ⟨rfl, t, a, e, h, Nat.le_refl _, hD, fun _ _ => rfl⟩⟩⟩
theorem Tune_loop {g1 : Nat} (hx : x + 4 ≤ c) (hgm : g1 < 4) : ∀ (j : Nat) (I Iz : Nat → Nat → Int32) (t a e m n l2 f g : Nat), sz < a + j → j < f → j < g → l2 < a → Ps x z sz b I Iz t a e m n → Dr I c (Iz (z + 4)) → ∃ y Iz1, rd_readTune_35 2000 x c (nI g1) f (nI l2) I = some y ∧ r_readTune_39 2000 z (nI g1) g Iz = some Iz1 ∧ ((∃ I1, y = .inl (0, I1) ∧ LO x z sz b c I Iz a m n 0 I1 Iz1) ∨ (∃ l I1, y = .inr (l, I1) ∧ I1 c = I c ∧ LO x z sz b c I Iz a m n 1 I1 Iz1)) := by
  intro j
  induction j with
  | zero =>
    intro I Iz t a e m n l2 f g hj hf hg hl h hD
    obtain ⟨p1, p2, p3, p4, p5⟩ := h.tk
    omega
  | succ j ih =>
    intro I Iz t a e m n l2 f g hj hf hg hl h hD
    obtain ⟨p1, p2, p3, p4, p5⟩ := h.tk
    obtain ⟨f, rfl⟩ : ∃ f', f = f' + 1 := ⟨f - 1, by omega⟩
    obtain ⟨g, rfl⟩ : ∃ f', g = f' + 1 := ⟨g - 1, by omega⟩
    rw [rd_readTune_35, r_readTune_39, if_neg (show ¬ (900 : Int32) ≤ nI l2 from nI_ge (b := 900) (by omega) (by decide)), if_pos h.ok]
    unfold r_eats
    by_cases c1 : t = 25
    · have hae := p5 (by omega)
      obtain ⟨t1, a1, e1, I1, Iz1, g1', g2, g3, g4, g5, g6, g7, g8⟩ := tk_go h (by omega)
      rw [if_pos (show I (x + 2) 6 = 209 from h.isc c1), show r_is Iz z 5 = 1 from h.isr (u := 25) (by decide) c1, if_neg (show ¬ (1 : Int32) = 0 by decide), g1', g2, Option.bind_some, Option.bind_some]
      try dsimp only
      rw [Option.bind_some]
      try dsimp only
      rw [if_neg (show ¬ (1 : Int32) = 0 by decide)]
      have hD1 : Dr I1 c (Iz1 (z + 4)) := by rw [g6]; exact hD.keep (fun q h1 h2 => g7.1 q (by omega) (by omega))
      obtain ⟨q1, q2, q3, q4, q5⟩ := g3.tk
      rcases num_go (v := 9) g3 (by decide) with ⟨k1, w, k2, k3, k4, k5⟩ | ⟨I2, Iz2, u, k1, k2, k3, k4, k5⟩
      · have k4 : rd_isNUpTo I1 x 9 = _ := k4
        have hs1 : Ps x z sz b (uI I1 (c + 3) g1 (nI w)) Iz1 t1 a1 e1 m n := g3.putc hx
        obtain ⟨t2, a2, e2, I3, Iz3, s1, s2, s3, s4, s5, s6, s7, s8⟩ := tk_go hs1 (by omega)
        have k5 : r_takes 2000 Iz1 z 0 9 = _ := k5 Iz3 s2
        rw [k4, k5, Option.bind_some, Option.bind_some]
        try dsimp only
        rw [if_neg (show ¬ (1 : Int32) = 0 by decide), k3, chk_nI hgm (by decide), nI_cl (by omega), s1, Option.bind_some]
        try dsimp only
        rw [show (22 : Int32) + nI g1 = nI (22 + g1) from nI_add 22 g1, chk_nI (by omega) (by decide), nI_cl (by omega), nI_1]
        have q6 := q5 (by omega)
        have hs3 : Ps x z sz b I3 (uI Iz3 (z + 4) (22 + g1) (nI w)) t2 a2 e2 m n := s3.putz (by omega)
        have hD3 : Dr I3 c ((uI Iz3 (z + 4) (22 + g1) (nI w)) (z + 4)) := by
          rw [uI_s, s6]
          exact (hD1.put (r := 3) (i := g1) (k := 22 + g1) (v := nI w) (by omega) (by omega) ⟨fun _ => ⟨w, k2, rfl⟩, fun cc => absurd cc (by decide)⟩).keep (fun q h1 h2 => s7.1 q (by omega) (by omega))
        obtain ⟨y, Iz4, i1, i2, i3⟩ := ih I3 _ t2 a2 e2 m n (l2 + 1) f g (by omega) (by omega) (by omega) (by omega) hs3 hD3
        have fl : Fl I I3 x c := (g7.fl.tr (Fl.u (by omega) hx)).tr s7.fl
        have fr : Flr Iz (uI Iz3 (z + 4) (22 + g1) (nI w)) z := (g8.fl.tr s8.fl).tr Flr.u
        have cz : ∀ k, k = 0 ∨ (4 ≤ k ∧ k < 10) ∨ 32 ≤ k → (uI Iz3 (z + 4) (22 + g1) (nI w)) (z + 4) k = Iz (z + 4) k := fun k hk => by rw [uI_k _ _ _ _ _ (by omega), s6, g6]
        refine ⟨y, Iz4, i1, i2, ?_⟩
        rcases i3 with ⟨I5, i3, i4⟩ | ⟨l, I5, i3, i6, i4⟩
        · exact Or.inl ⟨I5, i3, i4.then fl fr cz (by omega)⟩
        · exact Or.inr ⟨l, I5, i3, by rw [i6, s7.1 c (by omega) (by omega), uI_row _ _ _ _ _ (by omega), g7.1 c (by omega) (by omega)], i4.then fl fr cz (by omega)⟩
      · have k1 : rd_isNUpTo I1 x 9 = _ := k1
        have k2 : r_takes 2000 Iz1 z 0 9 = _ := k2
        rw [k1, k2, Option.bind_some, Option.bind_some]
        try dsimp only
        obtain ⟨g, rfl⟩ : ∃ f', g = f' + 1 := ⟨g - 1, by omega⟩
        rw [if_pos rfl, show (22 : Int32) + nI g1 = nI (22 + g1) from nI_add 22 g1, chk_nI (by omega) (by decide), nI_cl (by omega), r_readTune_39, if_neg (k3.putz (k := 22 + g1) (w := u)).ne]
        exact ⟨_, _, rfl, rfl, Or.inl ⟨_, rfl, g7.fl.tr k4.fl, (g8.fl.tr k5.fl).tr Flr.u, Or.inl ⟨rfl, k3.putz⟩⟩⟩
    · rw [if_neg (show ¬ I (x + 2) 6 = 209 from h.nsc (u := 25) (by decide) c1), show r_is Iz z 5 = 0 from h.nsr (u := 25) (by decide) c1, if_pos rfl, Option.bind_some]
      try dsimp only
      rw [if_pos rfl]
      exact ⟨_, _, rfl, rfl, Or.inr ⟨_, _, rfl, rfl, Fl.rf, Flr.rf, Or.inr ⟨rfl, t, a, e, h, Nat.le_refl _, hD, fun _ _ => rfl⟩⟩⟩
end
