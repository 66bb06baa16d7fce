/-! the text from its head on -/
theorem nI_all (v : Int32) : ∃ m, v = nI m := ⟨v.toBitVec.toNat, by
  apply Int32.toBitVec_inj.mp
  show v.toBitVec = BitVec.ofNat 32 v.toBitVec.toNat
  simp⟩
theorem plain_is {T : Nat → Option (Nat × Nat)} {qa : Nat} (hl : lenT T qa = 1297) : ∀ (j k f : Nat) (I : Nat → Nat → Int32), k + j = 1297 → j < f → (∀ i, i < k → I qa i = 0) → ∃ I1, r_plain_2 2000 T qa f (nI k) I = some (nI 1297, I1) ∧ (∀ i, i < 1297 → I1 qa i = 0) ∧ ∀ q, q ≠ qa → I1 q = I q := by
  intro j
  induction j with
  | zero =>
    intro k f I hk hf h0
    obtain ⟨f, rfl⟩ : ∃ f', f = f' + 1 := ⟨f - 1, by omega⟩
    obtain rfl : k = 1297 := by omega
    rw [r_plain_2, if_pos (show (1297 : Int32) ≤ nI 1297 from nI_le (a := 1297) (Nat.le_refl _) (by decide))]
    exact ⟨I, rfl, h0, fun _ _ => rfl⟩
  | succ j ih =>
    intro k f I hk hf h0
    obtain ⟨f, rfl⟩ : ∃ f', f = f' + 1 := ⟨f - 1, by omega⟩
    rw [r_plain_2, if_neg (show ¬ (1297 : Int32) ≤ nI k from nI_ge (b := 1297) (by omega) (by decide)), hl, chk_nI (by omega) (by decide), nI_cl (by omega), nI_1]
    obtain ⟨I1, e1, e2, e3⟩ := ih (k + 1) f (uI I qa k 0) (by omega) (by omega) (fun i hi => by
      by_cases c : i = k
      · subst c; exact uI_e _ _ _ _
      · rw [uI_k _ _ _ _ _ c]; exact h0 i (by omega))
    exact ⟨I1, e1, e2, fun q hq => by rw [e3 q hq, uI_row _ _ _ _ _ hq]⟩
theorem copy_go {z : Nat} {g1 : Int32} : ∀ (j k f : Nat) (I : Nat → Nat → Int32), k + j = 1297 → j < f → ∃ I1, r_court_141 2000 z g1 f (nI k) I = some (nI 1297, I1) ∧ (∀ i, k ≤ i → i < 1297 → I1 (z + 1) i = I (z + 4) i) ∧ (∀ i, ¬ (k ≤ i ∧ i < 1297) → I1 (z + 1) i = I (z + 1) i) ∧ ∀ q, q ≠ z + 1 → I1 q = I q := by
  intro j
  induction j with
  | zero =>
    intro k f I hk hf
    obtain ⟨f, rfl⟩ : ∃ f', f = f' + 1 := ⟨f - 1, by omega⟩
    obtain rfl : k = 1297 := by omega
    rw [r_court_141, if_pos (show (1297 : Int32) ≤ nI 1297 from nI_le (a := 1297) (Nat.le_refl _) (by decide))]
    exact ⟨I, rfl, fun i h1 h2 => by omega, fun _ _ => rfl, fun _ _ => rfl⟩
  | succ j ih =>
    intro k f I hk hf
    obtain ⟨f, rfl⟩ : ∃ f', f = f' + 1 := ⟨f - 1, by omega⟩
    rw [r_court_141, if_neg (show ¬ (1297 : Int32) ≤ nI k from nI_ge (b := 1297) (by omega) (by decide)), chk_nI (show k < 1297 by omega) (by decide), chk_nI (show k < 3891 by omega) (by decide), nI_cl (by omega), nI_1]
    obtain ⟨I1, e1, e2, e3, e4⟩ := ih (k + 1) f (uI I (z + 1) k (I (z + 4) k)) (by omega) (by omega)
    refine ⟨I1, e1, fun i h1 h2 => ?_, fun i hi => ?_, fun q hq => by rw [e4 q hq, uI_row _ _ _ _ _ hq]⟩
    · by_cases c : i = k
      · subst c
        rw [e3 _ (by omega), uI_e]
      · rw [e2 i (by omega) h2, uI_row _ _ _ _ _ (by omega)]
    · rw [e3 i (by omega), uI_k _ _ _ _ _ (by omega)]
theorem cspot_go {z : Nat} {g1 : Int32} : ∀ (j k f : Nat) (I : Nat → Nat → Int32), k + j = 6 → j < f → ∃ I1, r_court_168 2000 z g1 f (nI k) I = some (nI 6, I1) ∧ (∀ i, k ≤ i → i < 6 → I1 (z + 1) (35 + i) = nI i) ∧ (∀ i, ¬ (35 + k ≤ i ∧ i < 41) → I1 (z + 1) i = I (z + 1) i) ∧ ∀ q, q ≠ z + 1 → I1 q = I q := by
  intro j
  induction j with
  | zero =>
    intro k f I hk hf
    obtain ⟨f, rfl⟩ : ∃ f', f = f' + 1 := ⟨f - 1, by omega⟩
    obtain rfl : k = 6 := by omega
    rw [r_court_168, if_pos (show (6 : Int32) ≤ nI 6 from nI_le (a := 6) (Nat.le_refl _) (by decide))]
    exact ⟨I, rfl, fun i h1 h2 => by omega, fun _ _ => rfl, fun _ _ => rfl⟩
  | succ j ih =>
    intro k f I hk hf
    obtain ⟨f, rfl⟩ : ∃ f', f = f' + 1 := ⟨f - 1, by omega⟩
    rw [r_court_168, if_neg (show ¬ (6 : Int32) ≤ nI k from nI_ge (b := 6) (by omega) (by decide)), show (35 : Int32) + nI k = nI (35 + k) from nI_add 35 k, chk_nI (show 35 + k < 3891 by omega) (by decide), nI_cl (by omega), nI_1]
    obtain ⟨I1, e1, e2, e3, e4⟩ := ih (k + 1) f (uI I (z + 1) (35 + k) (nI k)) (by omega) (by omega)
    refine ⟨I1, e1, fun i h1 h2 => ?_, fun i hi => ?_, fun q hq => by rw [e4 q hq, uI_row _ _ _ _ _ hq]⟩
    · by_cases c : i = k
      · subst c
        rw [e3 _ (by omega), uI_e]
      · exact e2 i (by omega) h2
    · rw [e3 i (by omega), uI_k _ _ _ _ _ (by omega)]
section
variable {x z sz c : Nat} {b : Nat → Nat} {Iz : Nat → Nat → Int32} {t a e m n ln : Nat}
theorem LI.tk {nn t1 a1 e1 : Nat} {T : Nat → Option (Nat × Nat)} {I I1 Iz1 : Nat → Nat → Int32} {J : Nat → Nat → Int64} {P : Nat → Nat → Option Nat} (hL : LI x z sz b c (nn, T, I, J, P) Iz t a e m n ln) (hp1 : Ps x z sz b I1 Iz1 t1 a1 e1 m n) (ha : a ≤ a1) (hz : Iz1 (z + 4) = Iz (z + 4)) (hf : Fpc I I1 x) : LI x z sz b c (nn, T, I1, J, P) Iz1 t1 a1 e1 m n ln := by
  obtain ⟨hk, hp, ⟨b1, b2', b3, b4⟩, hd, ⟨l1, l2⟩, d0, d1⟩ := hL
  have b3 : c + 8 ≤ nn := b3
  have hd : Dr I c (Iz (z + 4)) := hd
  have rows : ∀ q, c + 8 ≤ q → q < nn → T q = T q ∧ I1 q = I q := fun q h1 h2 => ⟨rfl, hf.1 q (by omega) (by omega)⟩
  refine ⟨hk, hp1, ⟨by omega, fun k h1 h2 => by rw [hz]; exact b2' k h1 h2, b3, b4⟩, ?_, ⟨by rw [hz]; exact l1, by omega⟩, ?_, ?_⟩
  · rw [hz]
    exact hd.keep (fun q h1 h2 => hf.1 q (by omega) (by omega))
  · rw [hz]
    exact LawD.mv (by omega) d0 rows rfl (Nat.le_refl _) ⟨rfl, rfl, rfl⟩ (fun _ _ => rfl) (Nat.le_refl _)
  · rw [hz]
    exact LawD.mv (by omega) d1 rows rfl (Nat.le_refl _) ⟨rfl, rfl, rfl⟩ (fun _ _ => rfl) (Nat.le_refl _)
theorem text_go {nn : Nat} {T : Nat → Option (Nat × Nat)} {I : Nat → Nat → Int32} {J : Nat → Nat → Int64} {P : Nat → Nat → Option Nat} {v : Int32} (hk : Hk x c (nn, T, I, J, P)) (hT : Txt I x Iz z sz b) (h5 : I (x + 2) 5 = 0) (h7 : Iz z 7 = 0) (h0 : I (x + 2) 0 = 0) (h1 : I (x + 2) 1 = -1) (h11 : Iz z 11 = 0) (hc : x + 4 ≤ c ∧ c + 8 ≤ nn) (hI : ∀ q, c ≤ q → q ≤ c + 4 → ∀ k, I q k = 0) (hz : ∀ k, k < 1297 → Iz (z + 4) k = 0) (hP : P c 8 = none ∧ P c 9 = none) : ∃ r Iz0 Iz1, rcRest 2000 x c (nn, T, I, J, P) = some r ∧ r_nextToken 2000 Iz z = some Iz0 ∧ (∀ {β : Type} (κ : (Nat → Nat → Int32) → Option β), ((r_eats 2000 Iz0 z 0).bind (fun q18 => let u20 := q18.1; let I21 := q18.2; if u20 = 0 then ((r_fails I21 z 2).bind (fun q77 => let I79 := q77; (r_ends 2000 I79 z).bind (fun q80 => let I82 := q80; (r_court_70 2000 z v 2000 I82).bind κ))) else ((r_ends 2000 I21 z).bind (fun q23 => let I25 := q23; (r_court_70 2000 z v 2000 I25).bind κ)))) = κ Iz1) ∧ Rgo x z sz b c (nn, T, I, J, P) Iz 0 r Iz1 := by
  obtain ⟨t, a, e, I1, Iz1, g1, g2, g3, g4, g5, g6⟩ := tok_is hT (e0 := 0) h5 h7 (by omega) h0 h1 h11
  obtain ⟨m, hm⟩ := nI_all (I1 (x + 2) 10)
  have hp : Ps x z sz b I1 Iz1 t a e m 0 := ⟨g3, hm, by rw [g6.1 _ (by omega)]; exact hz 396 (by omega)⟩
  have hI1 : ∀ q, c ≤ q → q ≤ c + 4 → ∀ k, I1 q k = 0 := fun q h1 h2 k => by rw [g5.1 q (by omega)]; exact hI q h1 h2 k
  have hz1 : ∀ k, k < 1297 → Iz1 (z + 4) k = 0 := fun k hk => by rw [g6.1 _ (by omega)]; exact hz k hk
  have z0 : (0 : Int32).toInt = 0 := rfl
  have hL : LI x z sz b c (nn, T, I1, J, P) Iz1 t a e m 0 0 := by
    refine ⟨hk, hp, ⟨by omega, fun k h1 h2 => hz1 k (by omega), hc.2, hc.1⟩, ⟨⟨?_, ?_, ?_, ?_, fun p hp => ⟨?_, ?_⟩, fun q hq => ⟨?_, 0, by omega, ?_⟩, fun q hq => ⟨?_, ?_, ?_⟩⟩, 0, 0, 0, 0, by omega, ?_, ?_, ?_, ?_⟩, ⟨hz1 0 (by omega), by omega⟩, Or.inl ⟨hz1 _ (by omega), hP.1⟩, Or.inl ⟨hz1 _ (by omega), hP.2⟩⟩
    · rw [hz1 _ (by omega)]; exact hI1 c (by omega) (by omega) _
    · rw [hz1 _ (by omega)]; exact hI1 c (by omega) (by omega) _
    · rw [hz1 _ (by omega)]; exact hI1 c (by omega) (by omega) _
    · rw [hz1 _ (by omega)]; exact hI1 c (by omega) (by omega) _
    · rw [hz1 _ (by omega)]; exact hI1 (c + 1) (by omega) (by omega) _
    · rw [hz1 _ (by omega)]; exact hI1 (c + 2) (by omega) (by omega) _
    · rw [hz1 _ (by omega)]; exact hI1 (c + 3) (by omega) (by omega) _
    · rw [hz1 _ (by omega)]; rfl
    · rw [hz1 _ (by omega)]; exact hI1 (c + 4) (by omega) (by omega) _
    · rw [hz1 _ (by omega), z0]; decide
    · rw [hz1 _ (by omega), z0]; decide
    · exact hI1 c (by omega) (by omega) _
    · exact hI1 c (by omega) (by omega) _
    · exact hI1 c (by omega) (by omega) _
    · exact hI1 c (by omega) (by omega) _
  unfold rcRest
  try dsimp only
  rw [g1, Option.bind_some]
  have ap := hp.tk
  rcases expect_ge (u := 23) hp (by decide) (by decide) with ⟨c1, t2, a2, e2, I2, Iz2, j1, j2, j3, j4, j5, j6, j7, j8⟩ | ⟨c1, I2, Iz2, j1, j2, j3, j4, j5, j6, j7⟩
  case inr =>
    have j1 : rd_expect 2000 I1 x 207 = _ := j1
    have j2 : r_eats 2000 Iz1 z 0 = _ := j2
    obtain ⟨Iz3, k1, k2, k3⟩ := be_ends j4
    rw [j1, Option.bind_some]
    try dsimp only
    rw [if_pos rfl, loop0 (f := 1999)]
    refine ⟨_, Iz1, Iz3, rfl, g2, fun κ => ?_, LF.fl (g5.fc.fl.tr j5.fl), (g6.fr.fl.tr j6.fl).tr k3, by show 0 + 0 ≤ sz; omega, by show 0 + 0 ≤ sz; omega, Or.inl ⟨rfl, k2⟩⟩
    rw [j2, Option.bind_some]
    try dsimp only
    rw [if_pos rfl, j3, Option.bind_some]
    try dsimp only
    rw [k1, Option.bind_some]
    try dsimp only
    rw [be_70 (f := 1999) k2, Option.bind_some]
  have j1 : rd_expect 2000 I1 x 207 = _ := j1
  have j2 : r_eats 2000 Iz1 z 0 = _ := j2
  have hae := ap.2.2.2.2 (by omega)
  have hL2 := hL.tk j3 (by omega) j6 j7
  obtain ⟨r, I3, Iz3, k1, k2, k3, k4, k5⟩ := ends_go hL2
  have jp := j3.tk
  rw [j1, Option.bind_some]
  try dsimp only
  rw [if_neg (show ¬ (1 : Int32) = 0 by decide), k1, Option.bind_some]
  try dsimp only
  have lf : LF x c (nn, T, I, J, P) (nn, T, I3, J, P) := (LF.fl (g5.fc.fl.tr j7.fl)).tr k3
  have fr : Flr Iz Iz3 z := (g6.fr.fl.tr j8.fl).tr k4
  rcases k5 with ⟨k5, k6⟩ | ⟨k5, t3, a3, e3, k6, k7⟩
  · rw [if_pos k5, loop0 (f := 1999)]
    refine ⟨_, Iz1, Iz3, rfl, g2, fun κ => ?_, lf, fr, by show 0 + 0 ≤ sz; omega, by show 0 + 0 ≤ sz; omega, Or.inl ⟨rfl, k6⟩⟩
    rw [j2, Option.bind_some]
    try dsimp only
    rw [if_neg (show ¬ (1 : Int32) = 0 by decide), k2, Option.bind_some]
    try dsimp only
    rw [be_70 (f := 1999) k6, Option.bind_some]
  · obtain ⟨r', Iz4, i1, i2, i3, i4, i5, i6, i7⟩ := lines_go (v := v) 1000 nn T I3 J P Iz3 t3 a3 e3 m 0 (0 + 1) 0 2000 2000 (by omega) (by omega) (by omega) (by omega) k6
    have i1 : rcLoop 2000 x c 2000 1 0 (nn, T, I3, J, P) = some r' := i1
    rw [if_neg (by rw [k5]; decide), i1]
    refine ⟨_, Iz1, Iz4, rfl, g2, fun κ => ?_, lf.tr i3, fr.tr i4, by omega, by omega, i7⟩
    rw [j2, Option.bind_some]
    try dsimp only
    rw [if_neg (show ¬ (1 : Int32) = 0 by decide), k2, Option.bind_some]
    try dsimp only
    rw [i2, Option.bind_some]
end
