/-! whole lines: person, tune, office -/
theorem Dr.cnt {I : Nat → Nat → Int32} {c i k w : Nat} {A : Row} (h : Dr I c A) (hw : I c i = nI w) (hi : (i = 0 ∧ k = 1 ∧ w < 6) ∨ (i = 1 ∧ k = 2 ∧ w < 4) ∨ (i = 2 ∧ k = 3 ∧ w < 6) ∨ (i = 3 ∧ k = 0 ∧ w < 900)) : Dr (uI I c i (nI (w + 1))) c (upd A k (nI (w + 1))) := by
  obtain ⟨h0, np, nt, no, ln, hb, k0, k1, k2, k3⟩ := h
  have h1 := h0.put (r := 0) (i := i) (k := k) (v := nI (w + 1)) (by omega) (fun cc => absurd cc (by decide)) (fun cc => absurd cc (by decide))
  refine ⟨h1, ?_⟩
  rcases hi with ⟨rfl, rfl, hw6⟩ | ⟨rfl, rfl, hw6⟩ | ⟨rfl, rfl, hw6⟩ | ⟨rfl, rfl, hw6⟩
  · exact ⟨w + 1, nt, no, ln, by omega, uI_e _ _ _ _, by rw [uI_k _ _ _ _ _ (by decide)]; exact k1, by rw [uI_k _ _ _ _ _ (by decide)]; exact k2, by rw [uI_k _ _ _ _ _ (by decide)]; exact k3⟩
  · exact ⟨np, w + 1, no, ln, by omega, by rw [uI_k _ _ _ _ _ (by decide)]; exact k0, uI_e _ _ _ _, by rw [uI_k _ _ _ _ _ (by decide)]; exact k2, by rw [uI_k _ _ _ _ _ (by decide)]; exact k3⟩
  · exact ⟨np, nt, w + 1, ln, by omega, by rw [uI_k _ _ _ _ _ (by decide)]; exact k0, by rw [uI_k _ _ _ _ _ (by decide)]; exact k1, uI_e _ _ _ _, by rw [uI_k _ _ _ _ _ (by decide)]; exact k3⟩
  · exact ⟨np, nt, no, w + 1, by omega, by rw [uI_k _ _ _ _ _ (by decide)]; exact k0, by rw [uI_k _ _ _ _ _ (by decide)]; exact k1, by rw [uI_k _ _ _ _ _ (by decide)]; exact k2, uI_e _ _ _ _⟩
section
variable {x z sz c : Nat} {b : Nat → Nat} {I Iz : Nat → Nat → Int32} {t a e m n : Nat}
theorem bd_takes {v1 v2 : Int32} (h : Be x z I Iz) : r_takes 2000 Iz z v1 v2 = some (Iz z 10, Iz) := by
  unfold r_takes
  rw [h.is, if_pos rfl, h.fails, Option.bind_some]
  try dsimp only
  rw [if_neg h.ne]
theorem bd_p59 {g1 : Int32} {f : Nat} (h : Be x z I Iz) : r_readPerson_59 2000 z g1 (f + 1) Iz = some Iz := by rw [r_readPerson_59, if_neg h.ne]
theorem bd_t39 {g1 : Int32} {f : Nat} (h : Be x z I Iz) : r_readTune_39 2000 z g1 (f + 1) Iz = some Iz := by rw [r_readTune_39, if_neg h.ne]
/-- the count at the end of a line -/
theorem cnt_go {i k w : Nat} {I1 Iz1 : Nat → Nat → Int32} {aa : Nat} (hx : x + 4 ≤ c) (h : LO x z sz b c I Iz aa m n 1 I1 Iz1) (hw : I1 c i = nI w) (hi : (i = 0 ∧ k = 1 ∧ w < 6) ∨ (i = 1 ∧ k = 2 ∧ w < 4) ∨ (i = 2 ∧ k = 3 ∧ w < 6)) : Iz1 z 11 = 0 ∧ Iz1 (z + 4) k = nI w ∧ LO x z sz b c I Iz aa m n 1 (uI I1 c i (nI (w + 1))) (uI Iz1 (z + 4) k (nI (w + 1))) := by
  obtain ⟨g1, g2, g3⟩ := h
  rcases g3 with ⟨g3, _⟩ | ⟨g3, t1, a1, e1, g4, g5, g6, g7⟩
  · exact absurd g3 (by decide)
  · have hA : Iz1 (z + 4) k = I1 c i := by
      obtain ⟨⟨h0, h1, h2, h3, _⟩, _⟩ := g6
      rcases hi with ⟨rfl, rfl, _⟩ | ⟨rfl, rfl, _⟩ | ⟨rfl, rfl, _⟩
      · exact h0.symm
      · exact h1.symm
      · exact h2.symm
    have hk : 1 ≤ k ∧ k < 4 := by omega
    refine ⟨g4.ok, by rw [hA]; exact hw, g1.tr (Fl.u (r := 0) (by omega) hx), g2.tr Flr.u, Or.inr ⟨rfl, t1, a1, e1, g4.put (r := 0) hx (by omega), g5, ?_, fun q hq => by rw [uI_k _ _ _ _ _ (by omega)]; exact g7 q hq⟩⟩
    rw [uI_s]
    exact g6.cnt hw (by omega)
theorem Person_line (hx : x + 4 ≤ c) (h : Ps x z sz b I Iz t a e m n) (hD : Dr I c (Iz (z + 4))) (ht : t = 24) : ∃ r I1 Iz1, rd_readPerson 2000 I x c = some (r, I1) ∧ r_readPerson 2000 Iz z = some Iz1 ∧ LO x z sz b c I Iz (a + 1) m n r I1 Iz1 := by
  obtain ⟨p1, p2, p3, p4, p5⟩ := h.tk
  have hae := p5 (by omega)
  obtain ⟨h0, np, nt, no, ln, hb, k0, k1, k2, k3⟩ := id hD
  have A1 : Iz (z + 4) (Int32.toNatClampNeg 1) = nI np := by
    show Iz (z + 4) 1 = nI np
    rw [← k0]
    exact h0.1.symm
  unfold rd_readPerson r_readPerson
  try dsimp only
  rw [k0, A1]
  by_cases c6 : np < 6
  · rw [if_pos (show nI np < 6 from nI_lt (b := 6) c6 (by decide)), if_neg (show ¬ nI np = 6 from fun cc => by have := (nI_eq (b := 6) (by omega) (by decide)).mp cc; omega), if_pos h.ok]
    obtain ⟨t1, a1, e1, I1, Iz1, g1, g2, g3, g4, g5, g6, g7, g8⟩ := tk_go h (by omega)
    rw [g1, g2, Option.bind_some, Option.bind_some]
    try dsimp only
    have hD1 : Dr I1 c (Iz1 (z + 4)) := by rw [g6]; exact hD.keep (fun q h1 h2 => g7.1 q (by omega) (by omega))
    rcases expect_ge (u := 18) g3 (by decide) (by decide) with ⟨c1, t2, a2, e2, I2, Iz2, j1, j2, j3, j4, j5, j6, j7, j8⟩ | ⟨c1, I2, Iz2, j1, j2, j3, j4, j5, j6, j7⟩
    case inr =>
      have j1 : rd_expect 2000 I1 x 202 = _ := j1
      have j2 : r_eats 2000 Iz1 z 2 = _ := j2
      rw [j1, j2, Option.bind_some, Option.bind_some]
      try dsimp only
      rw [if_pos rfl, if_pos rfl, j3, Option.bind_some]
      try dsimp only
      rw [bd_takes j4, Option.bind_some]
      try dsimp only
      rw [show (10 : Int32) + nI np = nI (10 + np) from nI_add 10 np, chk_nI (by omega) (by decide), nI_cl (by omega), bd_p59 (f := 1999) j4.putz, Option.bind_some]
      try dsimp only
      rw [if_neg j4.putz.ne]
      exact ⟨_, _, _, rfl, rfl, g7.fl.tr j5.fl, (g8.fl.tr j6.fl).tr Flr.u, Or.inl ⟨rfl, j4.putz⟩⟩
    have j1 : rd_expect 2000 I1 x 202 = _ := j1
    have j2 : r_eats 2000 Iz1 z 2 = _ := j2
    rw [j1, j2, Option.bind_some, Option.bind_some]
    try dsimp only
    rw [if_neg (show ¬ (1 : Int32) = 0 by decide), if_neg (show ¬ (1 : Int32) = 0 by decide)]
    have hD2 : Dr I2 c (Iz2 (z + 4)) := by rw [j6]; exact hD1.keep (fun q h1 h2 => j7.1 q (by omega) (by omega))
    rcases num_go (v := 99) j3 (by decide) with ⟨l1, w, l2, l3, l4, l5⟩ | ⟨I3, Iz3, u, l1, l2, l3, l4, l5⟩
    case inr =>
      have l1 : rd_isNUpTo I2 x 99 = _ := l1
      have l2 : r_takes 2000 Iz2 z 0 99 = _ := l2
      rw [l1, l2, Option.bind_some, Option.bind_some]
      try dsimp only
      rw [if_pos rfl, show (10 : Int32) + nI np = nI (10 + np) from nI_add 10 np, chk_nI (by omega) (by decide), nI_cl (by omega), bd_p59 (f := 1999) l3.putz, Option.bind_some]
      try dsimp only
      rw [if_neg l3.putz.ne]
      exact ⟨_, _, _, rfl, rfl, (g7.fl.tr j7.fl).tr l4.fl, ((g8.fl.tr j8.fl).tr l5.fl).tr Flr.u, Or.inl ⟨rfl, l3.putz⟩⟩
    have l4 : rd_isNUpTo I2 x 99 = _ := l4
    have hs1 : Ps x z sz b (uI I2 (c + 1) np (nI w)) Iz2 t2 a2 e2 m n := j3.putc hx
    obtain ⟨t3, a3, e3, I3, Iz3, s1, s2, s3, s4, s5, s6, s7, s8⟩ := tk_go hs1 (by omega)
    have l5 : r_takes 2000 Iz2 z 0 99 = _ := l5 Iz3 s2
    rw [l4, l5, Option.bind_some, Option.bind_some]
    try dsimp only
    rw [if_neg (show ¬ (1 : Int32) = 0 by decide), l3, chk_nI c6 (by decide), nI_cl (by omega), s1, Option.bind_some]
    try dsimp only
    rw [show (10 : Int32) + nI np = nI (10 + np) from nI_add 10 np, chk_nI (by omega) (by decide), nI_cl (by omega)]
    have hs3 : Ps x z sz b I3 (uI Iz3 (z + 4) (10 + np) (nI w)) t3 a3 e3 m n := s3.putz (by omega)
    have hD3 : Dr I3 c ((uI Iz3 (z + 4) (10 + np) (nI w)) (z + 4)) := by
      rw [uI_s, s6]
      exact (hD2.put (r := 1) (i := np) (k := 10 + np) (v := nI w) (by omega) (by omega) ⟨fun cc => absurd cc (by decide), fun cc => absurd cc (by decide)⟩).keep (fun q h1 h2 => s7.1 q (by omega) (by omega))
    obtain ⟨q1, q2, q3, q4, q5⟩ := s3.tk
    have q6 := g3.tk.2.1
    have q7 := j3.tk.2.1
    obtain ⟨y, Iz4, i1, i2, i3⟩ := Person_loop (g1 := np) hx c6 1000 I3 _ t3 a3 e3 m n 0 2000 2000 (by omega) (by omega) (by omega) (by omega) hs3 hD3
    have i1 : rd_readPerson_64 2000 x c (nI np) 2000 0 I3 = some y := i1
    rw [i1, i2, Option.bind_some, Option.bind_some]
    try dsimp only
    have fl : Fl I I3 x c := ((g7.fl.tr j7.fl).tr (Fl.u (by omega) hx)).tr s7.fl
    have fr : Flr Iz (uI Iz3 (z + 4) (10 + np) (nI w)) z := ((g8.fl.tr j8.fl).tr s8.fl).tr Flr.u
    have cz : ∀ k, k = 0 ∨ (4 ≤ k ∧ k < 10) ∨ 32 ≤ k → (uI Iz3 (z + 4) (10 + np) (nI w)) (z + 4) k = Iz (z + 4) k := fun k hk => by rw [uI_k _ _ _ _ _ (by omega), s6, j6, g6]
    rcases i3 with ⟨I5, rfl, i4⟩ | ⟨l, I5, rfl, i6, i4⟩
    · try dsimp only
      have i5 := i4.then (aa := a + 1) fl fr cz (by omega)
      rcases i4.2.2 with ⟨_, i6⟩ | ⟨i6, _⟩
      · rw [if_neg i6.ne]
        exact ⟨_, _, _, rfl, rfl, i5⟩
      · exact absurd i6 (by decide)
    · try dsimp only
      have i5 := i4.then (aa := a + 1) fl fr cz (by omega)
      have hpe : I5 c 0 = nI np := by
        rw [i6, s7.1 c (by omega) (by omega), uI_row _ _ _ _ _ (by omega), j7.1 c (by omega) (by omega), g7.1 c (by omega) (by omega)]
        exact k0
      obtain ⟨o1, o2, o3⟩ := cnt_go (i := 0) (k := 1) (w := np) hx i5 hpe (by omega)
      have o2 : Iz4 (z + 4) (Int32.toNatClampNeg 1) = nI np := o2
      rw [if_pos o1, o2, hpe, nI_1]
      exact ⟨_, _, _, rfl, rfl, o3⟩
  · obtain rfl : np = 6 := by omega
    obtain ⟨I1, Iz1, g1, g2, g3, g4, g5, g6, g7⟩ := bad_ge (v := 4) h (by omega)
    have g1 : rd_refuse I x 4 = _ := g1
    have g2 : r_fails Iz z 4 = _ := g2
    rw [if_neg (by decide), if_pos (show nI 6 = 6 from rfl), g1, g2, Option.bind_some, Option.bind_some]
    try dsimp only
    rw [isb_out (Or.inl rfl), if_neg g3.ne]
    exact ⟨_, _, _, rfl, rfl, g4.fl, g5.fl, Or.inl ⟨rfl, g3⟩⟩
theorem Tune_line (hx : x + 4 ≤ c) (h : Ps x z sz b I Iz t a e m n) (hD : Dr I c (Iz (z + 4))) (ht : t = 19) : ∃ r I1 Iz1, rd_readTune 2000 I x c = some (r, I1) ∧ r_readTune 2000 Iz z = some Iz1 ∧ LO x z sz b c I Iz (a + 1) m n r I1 Iz1 := by
  obtain ⟨p1, p2, p3, p4, p5⟩ := h.tk
  have hae := p5 (by omega)
  obtain ⟨h0, np, nt, no, ln, hb, k0, k1, k2, k3⟩ := id hD
  have A1 : Iz (z + 4) (Int32.toNatClampNeg 2) = nI nt := by
    show Iz (z + 4) 2 = nI nt
    rw [← k1]
    exact h0.2.1.symm
  unfold rd_readTune r_readTune
  try dsimp only
  rw [k1, A1]
  by_cases c6 : nt < 4
  · rw [if_pos (show nI nt < 4 from nI_lt (b := 4) c6 (by decide)), if_neg (show ¬ nI nt = 4 from fun cc => by have := (nI_eq (b := 4) (by omega) (by decide)).mp cc; omega), if_pos h.ok, chk_nI c6 (by decide), nI_cl (by omega)]
    have hs1 : Ps x z sz b (uI I (c + 3) nt 1) Iz t a e m n := h.putc hx
    obtain ⟨t3, a3, e3, I3, Iz3, s1, s2, s3, s4, s5, s6, s7, s8⟩ := tk_go hs1 (by omega)
    rw [s1, s2, Option.bind_some, Option.bind_some]
    try dsimp only
    rw [show (22 : Int32) + nI nt = nI (22 + nt) from nI_add 22 nt, chk_nI (by omega) (by decide), nI_cl (by omega)]
    have hs3 : Ps x z sz b I3 (uI Iz3 (z + 4) (22 + nt) 1) t3 a3 e3 m n := s3.putz (by omega)
    have hD3 : Dr I3 c ((uI Iz3 (z + 4) (22 + nt) 1) (z + 4)) := by
      rw [uI_s, s6]
      exact (hD.put (r := 3) (i := nt) (k := 22 + nt) (v := 1) (by omega) (by omega) ⟨fun _ => ⟨1, by decide, rfl⟩, fun cc => absurd cc (by decide)⟩).keep (fun q h1 h2 => s7.1 q (by omega) (by omega))
    obtain ⟨q1, q2, q3, q4, q5⟩ := s3.tk
    obtain ⟨y, Iz4, i1, i2, i3⟩ := Tune_loop (g1 := nt) hx c6 1000 I3 _ t3 a3 e3 m n 0 2000 2000 (by omega) (by omega) (by omega) (by omega) hs3 hD3
    have i1 : rd_readTune_35 2000 x c (nI nt) 2000 0 I3 = some y := i1
    rw [i1, i2, Option.bind_some, Option.bind_some]
    try dsimp only
    have fl : Fl I I3 x c := (Fl.u (by omega) hx).tr s7.fl
    have fr : Flr Iz (uI Iz3 (z + 4) (22 + nt) 1) z := s8.fl.tr Flr.u
    have cz : ∀ k, k = 0 ∨ (4 ≤ k ∧ k < 10) ∨ 32 ≤ k → (uI Iz3 (z + 4) (22 + nt) 1) (z + 4) k = Iz (z + 4) k := fun k hk => by rw [uI_k _ _ _ _ _ (by omega), s6]
    rcases i3 with ⟨I5, rfl, i4⟩ | ⟨l, I5, rfl, i6, i4⟩
    · try dsimp only
      have i5 := i4.then (aa := a + 1) fl fr cz (by omega)
      rcases i4.2.2 with ⟨_, i6⟩ | ⟨i6, _⟩
      · rw [if_neg i6.ne]
        exact ⟨_, _, _, rfl, rfl, i5⟩
      · exact absurd i6 (by decide)
    · try dsimp only
      have i5 := i4.then (aa := a + 1) fl fr cz (by omega)
      have hpe : I5 c 1 = nI nt := by
        rw [i6, s7.1 c (by omega) (by omega), uI_row _ _ _ _ _ (by omega)]
        exact k1
      obtain ⟨o1, o2, o3⟩ := cnt_go (i := 1) (k := 2) (w := nt) hx i5 hpe (by omega)
      have o2 : Iz4 (z + 4) (Int32.toNatClampNeg 2) = nI nt := o2
      rw [if_pos o1, o2, hpe, nI_1]
      exact ⟨_, _, _, rfl, rfl, o3⟩
  · obtain rfl : nt = 4 := by omega
    obtain ⟨I1, Iz1, g1, g2, g3, g4, g5, g6, g7⟩ := bad_ge (v := 4) h (by omega)
    have g1 : rd_refuse I x 4 = _ := g1
    have g2 : r_fails Iz z 4 = _ := g2
    rw [if_neg (by decide), if_pos (show nI 4 = 4 from rfl), g1, g2, Option.bind_some, Option.bind_some]
    try dsimp only
    rw [isb_out (Or.inl rfl), if_neg g3.ne]
    exact ⟨_, _, _, rfl, rfl, g4.fl, g5.fl, Or.inl ⟨rfl, g3⟩⟩
theorem Office_line (hx : x + 4 ≤ c) (h : Ps x z sz b I Iz t a e m n) (hD : Dr I c (Iz (z + 4))) (ht : t = 26) : ∃ r I1 Iz1, rd_readOffice 2000 I x c = some (r, I1) ∧ r_readOffice 2000 Iz z = some Iz1 ∧ LO x z sz b c I Iz (a + 1) m n r I1 Iz1 := by
  obtain ⟨p1, p2, p3, p4, p5⟩ := h.tk
  have hae := p5 (by omega)
  obtain ⟨h0, np, nt, no, ln, hb, k0, k1, k2, k3⟩ := id hD
  have A1 : Iz (z + 4) (Int32.toNatClampNeg 3) = nI no := by
    show Iz (z + 4) 3 = nI no
    rw [← k2]
    exact h0.2.2.1.symm
  unfold rd_readOffice r_readOffice
  try dsimp only
  rw [k2, A1]
  by_cases c6 : no < 6
  · rw [if_pos (show nI no < 6 from nI_lt (b := 6) c6 (by decide)), if_neg (show ¬ nI no = 6 from fun cc => by have := (nI_eq (b := 6) (by omega) (by decide)).mp cc; omega), if_pos h.ok]
    obtain ⟨t1, a1, e1, I1, Iz1, g1, g2, g3, g4, g5, g6, g7, g8⟩ := tk_go h (by omega)
    rw [g1, g2, Option.bind_some, Option.bind_some]
    try dsimp only
    have hD1 : Dr I1 c (Iz1 (z + 4)) := by rw [g6]; exact hD.keep (fun q h1 h2 => g7.1 q (by omega) (by omega))
    have q6 := g3.tk.2.1
    rcases num_go (v := 99) g3 (by decide) with ⟨l1, w, l2, l3, l4, l5⟩ | ⟨I3, Iz3, u, l1, l2, l3, l4, l5⟩
    case inr =>
      have l1 : rd_isNUpTo I1 x 99 = _ := l1
      have l2 : r_takes 2000 Iz1 z 0 99 = _ := l2
      rw [l1, l2, Option.bind_some, Option.bind_some]
      try dsimp only
      rw [if_pos rfl, show (26 : Int32) + nI no = nI (26 + no) from nI_add 26 no, chk_nI (by omega) (by decide), nI_cl (by omega), if_neg l3.putz.ne]
      exact ⟨_, _, _, rfl, rfl, g7.fl.tr l4.fl, (g8.fl.tr l5.fl).tr Flr.u, Or.inl ⟨rfl, l3.putz⟩⟩
    have l4 : rd_isNUpTo I1 x 99 = _ := l4
    have hno : I1 c 2 = nI no := by rw [g7.1 c (by omega) (by omega)]; exact k2
    have hs1 : Ps x z sz b (uI (uI I1 (c + 4) no (nI w)) (c + 0) 2 (nI (no + 1))) Iz1 t1 a1 e1 m n := (g3.putc hx).putc hx
    obtain ⟨t3, a3, e3, I3, Iz3, s1, s2, s3, s4, s5, s6, s7, s8⟩ := tk_go hs1 (by omega)
    have s1 : rd_takeToken 2000 (uI (uI I1 (c + 4) no (nI w)) c 2 (nI (no + 1))) x = some I3 := s1
    have l5 : r_takes 2000 Iz1 z 0 99 = _ := l5 Iz3 s2
    rw [l4, l5, Option.bind_some, Option.bind_some]
    try dsimp only
    rw [if_neg (show ¬ (1 : Int32) = 0 by decide), l3, hno, chk_nI c6 (by decide), nI_cl (by omega), uI_row _ _ _ _ _ (show c ≠ c + 4 by omega), hno, nI_1, s1, Option.bind_some]
    try dsimp only
    rw [show (26 : Int32) + nI no = nI (26 + no) from nI_add 26 no, chk_nI (by omega) (by decide), nI_cl (by omega)]
    have hs3 : Ps x z sz b I3 (uI Iz3 (z + 4) (26 + no) (nI w)) t3 a3 e3 m n := s3.putz (by omega)
    rw [if_pos hs3.ok]
    have e3' : (Int32.toNatClampNeg 3) = 3 := rfl
    rw [e3', uI_k _ _ _ _ _ (show 3 ≠ 26 + no by omega), s6, g6, show Iz (z + 4) 3 = nI no from A1, nI_1]
    have hD2 : Dr (uI I1 (c + 4) no (nI w)) c (upd (Iz1 (z + 4)) (26 + no) (nI w)) := hD1.put (r := 4) (i := no) (k := 26 + no) (v := nI w) (by omega) (by omega) ⟨fun cc => absurd cc (by decide), fun _ => by rw [nI_toInt (by omega)]; omega⟩
    have hD4 := hD2.cnt (i := 2) (k := 3) (w := no) (by rw [uI_row _ _ _ _ _ (by omega)]; exact hno) (by omega)
    refine ⟨_, _, _, rfl, rfl, ((g7.fl.tr (Fl.u (by omega) hx)).tr (Fl.u (r := 0) (by omega) hx)).tr s7.fl, ((g8.fl.tr s8.fl).tr Flr.u).tr Flr.u, Or.inr ⟨rfl, t3, a3, e3, hs3.putz (by omega), by omega, ?_, fun k hk => ?_⟩⟩
    · rw [uI_s, uI_s, s6]
      exact hD4.keep (fun q h1 h2 => s7.1 q (by omega) (by omega))
    · rw [uI_k _ _ _ _ _ (by omega), uI_k _ _ _ _ _ (by omega), s6, g6]
  · obtain rfl : no = 6 := by omega
    obtain ⟨I1, Iz1, g1, g2, g3, g4, g5, g6, g7⟩ := bad_ge (v := 4) h (by omega)
    have g1 : rd_refuse I x 4 = _ := g1
    have g2 : r_fails Iz z 4 = _ := g2
    rw [if_neg (by decide), if_pos (show nI 6 = 6 from rfl), g1, g2, Option.bind_some, Option.bind_some]
    try dsimp only
    rw [isb_out (Or.inl rfl), if_neg g3.ne]
    exact ⟨_, _, _, rfl, rfl, g4.fl, g5.fl, Or.inl ⟨rfl, g3⟩⟩
end
