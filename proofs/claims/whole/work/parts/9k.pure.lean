/-! the lines of a court, one after another -/
def LawD (T : Nat → Option (Nat × Nat)) (I : Nat → Nat → Int32) (P : Nat → Nat → Option Nat) (c nn : Nat) (A : Row) (g n : Nat) : Prop := (A (4 + g) = 0 ∧ P c (8 + g) = none) ∨ (A (4 + g) ≠ 0 ∧ ∃ w φ, P c (8 + g) = some w ∧ (c + 8 ≤ w ∧ w + 2 ≤ nn) ∧ CLw T I w φ ∧ RLn A g φ n)
def LI (x z sz : Nat) (b : Nat → Nat) (c : Nat) (h : HT) (Iz : Nat → Nat → Int32) (t a e m n ln : Nat) : Prop := Hk x c h ∧ Ps x z sz b h.2.2.1 Iz t a e m n ∧ (n ≤ a ∧ (∀ k, 32 ≤ k → k < 396 → Iz (z + 4) k = 0) ∧ c + 8 ≤ h.1 ∧ x + 4 ≤ c) ∧ Dr h.2.2.1 c (Iz (z + 4)) ∧ (Iz (z + 4) 0 = nI ln ∧ ln ≤ a) ∧ LawD h.2.1 h.2.2.1 h.2.2.2.2 c h.1 (Iz (z + 4)) 0 n ∧ LawD h.2.1 h.2.2.1 h.2.2.2.2 c h.1 (Iz (z + 4)) 1 n
def LF (x c : Nat) (h h' : HT) : Prop := (∀ q, q < c → q ≠ x + 2 → q ≠ x + 3 → h'.2.2.1 q = h.2.2.1 q) ∧ (∀ q, q < c → h'.2.1 q = h.2.1 q ∧ h'.2.2.2.1 q = h.2.2.2.1 q ∧ h'.2.2.2.2 q = h.2.2.2.2 q) ∧ h.1 ≤ h'.1
theorem LF.rf {x c : Nat} {h : HT} : LF x c h h := ⟨fun _ _ _ _ => rfl, fun _ _ => ⟨rfl, rfl, rfl⟩, Nat.le_refl _⟩
theorem LF.tr {x c : Nat} {h h1 h2 : HT} (a : LF x c h h1) (b : LF x c h1 h2) : LF x c h h2 := ⟨fun q k1 k2 k3 => (b.1 q k1 k2 k3).trans (a.1 q k1 k2 k3), fun q k => ⟨(b.2.1 q k).1.trans (a.2.1 q k).1, (b.2.1 q k).2.1.trans (a.2.1 q k).2.1, (b.2.1 q k).2.2.trans (a.2.1 q k).2.2⟩, Nat.le_trans a.2.2 b.2.2⟩
theorem LF.fl {x c n : Nat} {T : Nat → Option (Nat × Nat)} {I I1 : Nat → Nat → Int32} {J : Nat → Nat → Int64} {P : Nat → Nat → Option Nat} (h : Fl I I1 x c) : LF x c (n, T, I, J, P) (n, T, I1, J, P) := ⟨fun q k1 k2 k3 => h.1 q k2 k3 (by omega), fun _ _ => ⟨rfl, rfl, rfl⟩, Nat.le_refl _⟩
theorem CLw.mv {T T' : Nat → Option (Nat × Nat)} {I I' : Nat → Nat → Int32} {w : Nat} {φ : Row → Int32} (h : CLw T I w φ) (hT : T' (w + 1) = T (w + 1)) (hI : I' (w + 1) = I (w + 1)) : CLw T' I' w φ := by
  obtain ⟨C, m, ⟨h1, h2, h3⟩, h4⟩ := h
  refine ⟨C, m, ⟨h1, ?_, fun k hk => by rw [hI]; exact h3 k hk⟩, h4⟩
  unfold lenT at h2 ⊢
  rw [hT]
  exact h2
theorem LawD.mv {T T' : Nat → Option (Nat × Nat)} {I I' : Nat → Nat → Int32} {P P' : Nat → Nat → Option Nat} {c nn nn' : Nat} {A A' : Row} {g n n' : Nat} (hg : g ≤ 1) (h : LawD T I P c nn A g n) (hT : ∀ q, c + 8 ≤ q → q < nn → T' q = T q ∧ I' q = I q) (hP : P' c (8 + g) = P c (8 + g)) (hn : nn ≤ nn') (hA : A' (4 + g) = A (4 + g) ∧ A' (6 + g) = A (6 + g) ∧ A' (8 + g) = A (8 + g)) (hA2 : ∀ k, k < n → A' (397 + k) = A (397 + k)) (hnn : n ≤ n') : LawD T' I' P' c nn' A' g n' := by
  rcases h with ⟨h1, h2⟩ | ⟨h1, w, φ, h2, h3, h4, fr, cs, ⟨s1, s2, s3, s4, s5⟩, h6, h7⟩
  · exact Or.inl ⟨by rw [hA.1]; exact h1, by rw [hP]; exact h2⟩
  · exact Or.inr ⟨by rw [hA.1]; exact h1, w, φ, by rw [hP]; exact h2, by omega, h4.mv (hT _ (by omega) (by omega)).1 (hT _ (by omega) (by omega)).2, fr, cs, ⟨s1, s2, by rw [hA.2.1]; exact s3, by rw [hA.2.2]; exact s4, fun i hi => by rw [show 397 + fr + i = 397 + (fr + i) by omega, hA2 _ (by omega), show 397 + (fr + i) = 397 + fr + i by omega]; exact s5 i hi⟩, by omega, h7⟩
theorem Dr.row {I : Nat → Nat → Int32} {c : Nat} {A A' : Row} (h : Dr I c A) (e : ∀ k, k < 32 → ¬ (4 ≤ k ∧ k < 10) → A' k = A k) : Dr I c A' := by
  obtain ⟨⟨h0, h1, h2, h3, h4, h5, h6⟩, hh⟩ := h
  refine ⟨⟨by rw [e 1 (by omega) (by omega)]; exact h0, by rw [e 2 (by omega) (by omega)]; exact h1, by rw [e 3 (by omega) (by omega)]; exact h2, by rw [e 0 (by omega) (by omega)]; exact h3, fun p hp => by rw [e (10 + p) (by omega) (by omega), e (16 + p) (by omega) (by omega)]; exact h4 p hp, fun t ht => by rw [e (22 + t) (by omega) (by omega)]; exact h5 t ht, fun k hk => by rw [e (26 + k) (by omega) (by omega)]; exact h6 k hk⟩, hh⟩
section
variable {x z sz c : Nat} {b : Nat → Nat} {Iz : Nat → Nat → Int32} {t a e m n ln : Nat}
/-- what a line's reading comes to, on both sides -/
def Lgo (x z sz : Nat) (b : Nat → Nat) (c : Nat) (h : HT) (Iz : Nat → Nat → Int32) (a ln : Nat) (q : Int32 × HT × Nat × Nat) (Iz1 : Nat → Nat → Int32) : Prop := LF x c h q.2.1 ∧ Flr Iz Iz1 z ∧ ((q.1 = 0 ∧ Be x z q.2.1.2.2.1 Iz1 ∧ q.2.2.1 = 0 ∧ q.2.2.2 = 0) ∨ (q.1 = 1 ∧ ∃ t1 a1 e1 m1 n1, LI x z sz b c q.2.1 Iz1 t1 a1 e1 m1 n1 ln ∧ a + q.2.2.1 ≤ a1 ∧ a + q.2.2.2 ≤ a1 ∧ a < a1))
theorem LO.go {nn : Nat} {T : Nat → Option (Nat × Nat)} {I I1 Iz1 : Nat → Nat → Int32} {J : Nat → Nat → Int64} {P : Nat → Nat → Option Nat} {r : Int32} (hL : LI x z sz b c (nn, T, I, J, P) Iz t a e m n ln) (h : LO x z sz b c I Iz (a + 1) m n r I1 Iz1) : Lgo x z sz b c (nn, T, I, J, P) Iz a ln (r, (nn, T, I1, J, P), 0, 0) Iz1 := by
  obtain ⟨g1, g2, g3⟩ := h
  obtain ⟨hk, hp, ⟨b1, b2', b3, b4⟩, hd, ⟨l1, l2⟩, d0, d1⟩ := hL
  have b3 : c + 8 ≤ nn := b3
  refine ⟨LF.fl g1, g2, ?_⟩
  rcases g3 with ⟨g3, g4⟩ | ⟨g3, t1, a1, e1, k1, k2, k3, k4⟩
  · exact Or.inl ⟨g3, g4, rfl, rfl⟩
  · have rows : ∀ q, c + 8 ≤ q → q < nn → T q = T q ∧ I1 q = I q := fun q h1 h2 => ⟨rfl, g1.1 q (by omega) (by omega) (by omega)⟩
    refine Or.inr ⟨g3, t1, a1, e1, m, n, ⟨hk, k1, ⟨by omega, fun k h1 h2 => (k4 k (by omega)).trans (b2' k h1 h2), b3, b4⟩, k3, ⟨by rw [k4 0 (by omega)]; exact l1, by omega⟩, ?_, ?_⟩, by show a + 0 ≤ a1; omega, by show a + 0 ≤ a1; omega, by omega⟩
    · exact LawD.mv (by omega) d0 rows rfl (Nat.le_refl _) ⟨k4 _ (by omega), k4 _ (by omega), k4 _ (by omega)⟩ (fun k _ => k4 _ (by omega)) (Nat.le_refl _)
    · exact LawD.mv (by omega) d1 rows rfl (Nat.le_refl _) ⟨k4 _ (by omega), k4 _ (by omega), k4 _ (by omega)⟩ (fun k _ => k4 _ (by omega)) (Nat.le_refl _)
theorem law_go {nn g : Nat} {T : Nat → Option (Nat × Nat)} {I : Nat → Nat → Int32} {J : Nat → Nat → Int64} {P : Nat → Nat → Option Nat} (hg : g ≤ 1) (ht : t ≠ 3 ∧ t ≠ 0) (hL : LI x z sz b c (nn, T, I, J, P) Iz t a e m n ln) : ∃ q Iz1, ((rd_readLaw 2000 I x).bind (fun k => lawL k nn T J P x c (8 + g))) = some q ∧ r_readLaw 2000 Iz z (nI g) = some Iz1 ∧ Lgo x z sz b c (nn, T, I, J, P) Iz a ln q Iz1 := by
  obtain ⟨hk, hp, ⟨b1, b2', b3, b4⟩, hd, ⟨l1, l2⟩, d0, d1⟩ := hL
  have b3 : c + 8 ≤ nn := b3
  have hp : Ps x z sz b I Iz t a e m n := hp
  have hd : Dr I c (Iz (z + 4)) := hd
  obtain ⟨r, I1, Iz1, g1, g2, g3, g4, g5⟩ := law_is hg hp ht b1
  rw [g1, g2, Option.bind_some]
  unfold lawL
  try dsimp only
  rcases g5 with ⟨g5, g6⟩ | ⟨g5, t1, a1, e1, m1, n1, φ, g6, g7, g8, g9, g10, g11⟩
  · rw [if_pos g5]
    exact ⟨_, _, rfl, rfl, LF.fl g3.fl, g4, Or.inl ⟨rfl, g6, rfl, rfl⟩⟩
  · obtain ⟨q1, q2, q3, q4, q5⟩ := g6.tk
    have hm9 : m1 < 900 := by omega
    have ecl : (I1 (x + 2) 10).toNatClampNeg = m1 := by rw [g6.2.1]; exact nI_cl (by omega)
    rw [g5, if_neg (show ¬ (1 : Int32) = 0 by decide), ecl, if_pos ⟨hm9, g6.2.1⟩]
    have hxn : x + 3 < nn := by omega
    have rI : ∀ q, q < nn → lwI I1 nn x m1 q = I1 q := fun q hq => by
      unfold lwI
      rw [cpI_n _ (by omega), zI_n (by omega), zI_n (by omega)]
    have rT : ∀ q, q < nn → lwT T nn m1 q = T q := fun q hq => by
      unfold lwT
      rw [va_up_ne _ _ (by omega), va_up_ne _ _ (by omega)]
    have rJ : ∀ q, q < nn → lwJ J nn q = J q := fun q hq => by
      unfold lwJ
      rw [zJ_n (by omega), zJ_n (by omega)]
    have rP : ∀ q, q < nn → q ≠ c → lwP P nn c (8 + g) q = P q := fun q hq hc => by
      unfold lwP
      rw [uP_n _ _ _ hc, uP_n _ _ _ (by omega), zP_n (by omega), zP_n (by omega)]
    have rPc : ∀ j, j ≠ 8 + g → lwP P nn c (8 + g) c j = P c j := fun j hj => by
      unfold lwP
      rw [uP_s, va_up_ne _ _ hj, uP_n _ _ _ (by omega), zP_n (by omega), zP_n (by omega)]
    have rPn : lwP P nn c (8 + g) c (8 + g) = some nn := by
      unfold lwP
      rw [uP_s, va_up_self]
    have hps : Ps x z sz b (lwI I1 nn x m1) Iz1 t1 a1 e1 m1 n1 := g6.mv (fun k _ => by rw [rI _ (by omega)]) (rI _ (by omega)) (fun _ => rfl) rfl (by rw [rI _ (by omega)]; exact g6.2.1) g6.2.2
    refine ⟨_, _, rfl, rfl, ⟨fun q h1 h2 h3 => ?_, fun q h1 => ⟨rT q (by omega), rJ q (by omega), rP q (by omega) (by omega)⟩, by show nn ≤ nn + 2; omega⟩, g4, Or.inr ⟨rfl, t1, a1, e1, m1, n1, ⟨lw_keeps (I := I1) (J := J) hk (by omega), ?_, ⟨by omega, fun k h1 h2 => (g11 k (by omega) (by omega) (by omega) (by omega) (by omega)).trans (b2' k h1 h2), by show c + 8 ≤ nn + 2; omega, b4⟩, ?_, ⟨?_, by omega⟩, ?_, ?_⟩, by show a + 2 ≤ a1; omega, by show a + (1 + m1) ≤ a1; omega, by omega⟩⟩
    · show lwI I1 nn x m1 q = I q
      rw [rI q (by omega)]
      exact g3.1 q h2 h3
    · exact hps
    · refine Dr.keep (I := I) (Dr.row hd (fun k h1 h2 => g11 k (by omega) (by omega) (by omega) (by omega) (by omega))) (fun q h1 h2 => ?_)
      show lwI I1 nn x m1 q = I q
      rw [rI q (by omega)]
      exact g3.1 q (by omega) (by omega)
    · rw [g11 0 (by omega) (by omega) (by omega) (by omega) (by omega)]
      exact l1
    · by_cases c0 : g = 0
      · subst c0
        exact Or.inr ⟨by rw [show 4 + 0 = 4 from rfl] at *; rw [g10]; decide, nn, φ, rPn, by show c + 8 ≤ nn ∧ nn + 2 ≤ nn + 2; omega, lw_new hxn hm9 g8, g9⟩
      · exact LawD.mv (by omega) d0 (fun q h1 h2 => ⟨rT q h2, (rI q h2).trans (g3.1 q (by omega) (by omega))⟩) (rPc _ (by omega)) (by show nn ≤ nn + 2; omega) ⟨g11 _ (by omega) (by omega) (by omega) (by omega) (by omega), g11 _ (by omega) (by omega) (by omega) (by omega) (by omega), g11 _ (by omega) (by omega) (by omega) (by omega) (by omega)⟩ (fun k hk => g11 _ (by omega) (by omega) (by omega) (by omega) (by omega)) (by omega)
    · by_cases c0 : g = 1
      · subst c0
        exact Or.inr ⟨by rw [g10]; decide, nn, φ, rPn, by show c + 8 ≤ nn ∧ nn + 2 ≤ nn + 2; omega, lw_new hxn hm9 g8, g9⟩
      · exact LawD.mv (by omega) d1 (fun q h1 h2 => ⟨rT q h2, (rI q h2).trans (g3.1 q (by omega) (by omega))⟩) (rPc _ (by omega)) (by show nn ≤ nn + 2; omega) ⟨g11 _ (by omega) (by omega) (by omega) (by omega) (by omega), g11 _ (by omega) (by omega) (by omega) (by omega) (by omega), g11 _ (by omega) (by omega) (by omega) (by omega) (by omega)⟩ (fun k hk => g11 _ (by omega) (by omega) (by omega) (by omega) (by omega)) (by omega)
theorem line_go {nn : Nat} {T : Nat → Option (Nat × Nat)} {I : Nat → Nat → Int32} {J : Nat → Nat → Int64} {P : Nat → Nat → Option Nat} (hL : LI x z sz b c (nn, T, I, J, P) Iz t a e m n ln) : ∃ q Iz1, rd_readLine 2000 nn T I J P x c = some q ∧ r_readLine 2000 Iz z = some Iz1 ∧ Lgo x z sz b c (nn, T, I, J, P) Iz a ln q Iz1 := by
  obtain ⟨hk, hp, ⟨b1, b2', b3, b4⟩, hd, ⟨l1, l2⟩, d0, d1⟩ := id hL
  have hp : Ps x z sz b I Iz t a e m n := hp
  have hd : Dr I c (Iz (z + 4)) := hd
  have lo01 : ∀ {r : Int32} {I1 Iz1 : Nat → Nat → Int32}, LO x z sz b c I Iz (a + 1) m n r I1 Iz1 → r = 0 ∨ r = 1 := fun h => by
    rcases h.2.2 with g | g
    · exact Or.inl g.1
    · exact Or.inr g.1
  unfold rd_readLine r_readLine
  rw [if_pos hp.ok]
  by_cases c1 : t = 24
  · obtain ⟨r, I1, Iz1, g1, g2, g3⟩ := Person_line b4 hp hd c1
    rw [if_pos (show I (x + 2) 6 = 208 from hp.isc c1), show r_is Iz z 1 = 1 from hp.isr (u := 24) (by decide) c1, if_neg (show ¬ (1 : Int32) = 0 by decide), g1, g2, Option.bind_some, Option.bind_some]
    try dsimp only
    rw [isb_out (lo01 g3)]
    exact ⟨_, _, rfl, rfl, g3.go hL⟩
  rw [if_neg (show ¬ I (x + 2) 6 = 208 from hp.nsc (u := 24) (by decide) c1), show r_is Iz z 1 = 0 from hp.nsr (u := 24) (by decide) c1, if_pos rfl]
  by_cases c2 : t = 19
  · obtain ⟨r, I1, Iz1, g1, g2, g3⟩ := Tune_line b4 hp hd c2
    rw [if_pos (show I (x + 2) 6 = 203 from hp.isc c2), show r_is Iz z 4 = 1 from hp.isr (u := 19) (by decide) c2, if_neg (show ¬ (1 : Int32) = 0 by decide), g1, g2, Option.bind_some, Option.bind_some]
    try dsimp only
    rw [isb_out (lo01 g3)]
    exact ⟨_, _, rfl, rfl, g3.go hL⟩
  rw [if_neg (show ¬ I (x + 2) 6 = 203 from hp.nsc (u := 19) (by decide) c2), show r_is Iz z 4 = 0 from hp.nsr (u := 19) (by decide) c2, if_pos rfl]
  by_cases c3 : t = 26
  · obtain ⟨r, I1, Iz1, g1, g2, g3⟩ := Office_line b4 hp hd c3
    rw [if_pos (show I (x + 2) 6 = 210 from hp.isc c3), show r_is Iz z 6 = 1 from hp.isr (u := 26) (by decide) c3, if_neg (show ¬ (1 : Int32) = 0 by decide), g1, g2, Option.bind_some, Option.bind_some]
    try dsimp only
    rw [isb_out (lo01 g3)]
    exact ⟨_, _, rfl, rfl, g3.go hL⟩
  rw [if_neg (show ¬ I (x + 2) 6 = 210 from hp.nsc (u := 26) (by decide) c3), show r_is Iz z 6 = 0 from hp.nsr (u := 26) (by decide) c3, if_pos rfl]
  by_cases c4 : t = 27
  · obtain ⟨q, Iz1, g1, g2, g3⟩ := law_go (g := 0) (by omega) (by omega) hL
    rw [if_pos (show I (x + 2) 6 = 211 from hp.isc c4), show r_is Iz z 7 = 1 from hp.isr (u := 27) (by decide) c4, if_neg (show ¬ (1 : Int32) = 0 by decide), hp.kr, c4, show krT.getD 27 0 - 7 = nI 0 by decide, g2]
    exact ⟨_, _, g1, rfl, g3⟩
  rw [if_neg (show ¬ I (x + 2) 6 = 211 from hp.nsc (u := 27) (by decide) c4), show r_is Iz z 7 = 0 from hp.nsr (u := 27) (by decide) c4, if_pos rfl]
  by_cases c5 : t = 28
  · obtain ⟨q, Iz1, g1, g2, g3⟩ := law_go (g := 1) (by omega) (by omega) hL
    rw [if_pos (show I (x + 2) 6 = 212 from hp.isc c5), show r_is Iz z 8 = 1 from hp.isr (u := 28) (by decide) c5, if_neg (show ¬ (1 : Int32) = 0 by decide), hp.kr, c5, show krT.getD 28 0 - 7 = nI 1 by decide, g2]
    exact ⟨_, _, g1, rfl, g3⟩
  rw [if_neg (show ¬ I (x + 2) 6 = 212 from hp.nsc (u := 28) (by decide) c5), show r_is Iz z 8 = 0 from hp.nsr (u := 28) (by decide) c5, if_pos rfl]
  obtain ⟨I1, Iz1, g1, g2, g3, g4, g5, g6, g7⟩ := bad_ge (v := 2) hp (by omega)
  have g1 : rd_refuse I x 2 = _ := g1
  have g2 : r_fails Iz z 2 = _ := g2
  rw [g1, g2, Option.bind_some, Option.bind_some]
  try dsimp only
  rw [isb_out (Or.inl rfl)]
  exact ⟨_, _, rfl, rfl, LF.fl g4.fl, g5.fl, Or.inl ⟨rfl, g3, rfl, rfl⟩⟩
end
