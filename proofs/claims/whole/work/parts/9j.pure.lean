/-! a law's line, and the law that is made of it -/
def RLn (A : Row) (g : Nat) (φ : Row → Int32) (n : Nat) : Prop := ∃ (fr : Nat) (cs : List Int32), Seg A g fr cs ∧ fr + cs.length ≤ n ∧ ∀ f, evR f cs [] = some [φ f]
section
variable {x z sz : Nat} {b : Nat → Nat} {I Iz : Nat → Nat → Int32} {t a e m n : Nat}
theorem Ps.rm (h : Ps x z sz b I Iz t a e m n) {v : Nat} : Ps x z sz b (uI I (x + 2) 10 (nI v)) Iz t a e v n := h.mv (fun k hk => uI_k _ _ _ _ _ hk) (uI_row _ _ _ _ _ (by omega)) (fun _ => rfl) rfl (uI_e _ _ _ _) h.2.2
theorem law_is {g : Nat} (hg : g ≤ 1) (h : Ps x z sz b I Iz t a e m n) (ht : t ≠ 3 ∧ t ≠ 0) (hn : n ≤ a) : ∃ r I1 Iz1, rd_readLaw 2000 I x = some (r, I1) ∧ r_readLaw 2000 Iz z (nI g) = some Iz1 ∧ Fpc I I1 x ∧ Flr Iz Iz1 z ∧ ((r = 0 ∧ Be x z I1 Iz1) ∨ (r = 1 ∧ ∃ t1 a1 e1 m1 n1 φ, Ps x z sz b I1 Iz1 t1 a1 e1 m1 n1 ∧ (m1 + a + 2 ≤ a1 ∧ n ≤ n1 ∧ n1 ≤ a1) ∧ SegC (I1 (x + 3)) 0 m1 52 φ ∧ RLn (Iz1 (z + 4)) g φ n1 ∧ Iz1 (z + 4) (4 + g) = 1 ∧ ∀ k, k ≠ 4 + g → k ≠ 6 + g → k ≠ 8 + g → k ≠ 396 → k < 397 + n → Iz1 (z + 4) k = Iz (z + 4) k)) := by
  obtain ⟨p1, p2, p3, p4, p5⟩ := h.tk
  have hae := p5 ht.2
  unfold rd_readLaw r_readLaw
  try dsimp only
  have fc0 : Fpc I (uI I (x + 2) 10 0) x := ⟨fun q h1 _ => uI_row _ _ _ _ _ h1, fun k _ _ _ _ _ _ h9 => uI_k _ _ _ _ _ h9⟩
  have h0 : Ps x z sz b (uI I (x + 2) 10 0) Iz t a e 0 n := h.rm (v := 0)
  obtain ⟨t1, a1, e1, I1, Iz1, g1, g2, g3, g4, g5, g6, g7, g8⟩ := tk_go h0 ht.1
  rw [g1, g2, Option.bind_some, Option.bind_some]
  try dsimp only
  have q2 := g3.tk
  rcases expect_go (u := 5) g3 (by omega) (by decide) (by decide) with ⟨c1, t2, a2, e2, I2, Iz2, j1, j2, j3, j4, j5, j6, j7, j8⟩ | ⟨c1, I2, Iz2, j1, j2, j3, j4, j5, j6, j7⟩
  case inr =>
    have j1 : rd_expect 2000 I1 x 58 = _ := j1
    have j2 : r_eats 2000 Iz1 z 31 = _ := j2
    rw [j1, j2, Option.bind_some, Option.bind_some]
    try dsimp only
    rw [if_pos rfl, if_pos rfl, j3, Option.bind_some]
    try dsimp only
    rw [show r_readSumB_f 2000 Iz2 z 0 = some Iz2 from (bd_parse j4.ne).2.2 67 0, Option.bind_some]
    try dsimp only
    rw [if_neg j4.ne]
    exact ⟨_, _, _, rfl, rfl, (fc0.tr g7).tr j5, g8.fl.tr j6.fl, Or.inl ⟨rfl, j4.be⟩⟩
  have j1 : rd_expect 2000 I1 x 58 = _ := j1
  have j2 : r_eats 2000 Iz1 z 31 = _ := j2
  have q3 := q2.2.2.2.2 (by omega)
  rw [j1, j2, Option.bind_some, Option.bind_some]
  try dsimp only
  rw [if_neg (show ¬ (1 : Int32) = 0 by decide), if_neg (show ¬ (1 : Int32) = 0 by decide)]
  obtain ⟨r, I3, Iz3, k1, k2, k3, k4, k5⟩ := sum_is j3 (by omega)
  rw [k1, k2, Option.bind_some, Option.bind_some]
  try dsimp only
  rcases k5 with ⟨k5, k6⟩ | ⟨k5, t3, a3, e3, m3, n3, φ, k6, k7, k8, k9, k10, k11, k12⟩
  · rw [k5, if_pos rfl, if_neg k6.ne]
    exact ⟨_, _, _, rfl, rfl, ((fc0.tr g7).tr j7).tr k3, (g8.fl.tr j8.fl).tr k4.fl, Or.inl ⟨rfl, k6.be⟩⟩
  obtain ⟨s1, s2, s3, s4, s5⟩ := k6.tk
  have e396 : Int32.toNatClampNeg 396 = 396 := rfl
  rw [k5, if_neg (show ¬ (1 : Int32) = 0 by decide), if_pos k6.ok, show (4 : Int32) + nI g = nI (4 + g) from nI_add 4 g, show (6 : Int32) + nI g = nI (6 + g) from nI_add 6 g, show (8 : Int32) + nI g = nI (8 + g) from nI_add 8 g, chk_nI (show 4 + g < 1297 by omega) (by decide), chk_nI (show 6 + g < 1297 by omega) (by decide), chk_nI (show 8 + g < 1297 by omega) (by decide), nI_cl (show 4 + g < 2147483648 by omega), nI_cl (show 6 + g < 2147483648 by omega), nI_cl (show 8 + g < 2147483648 by omega), e396, uI_k _ _ _ _ _ (show 396 ≠ 6 + g by omega), uI_k _ _ _ _ _ (show 396 ≠ 4 + g by omega), k6.2.2, j3.2.2, nI_SB (by omega)]
  refine ⟨_, _, _, rfl, rfl, ((fc0.tr g7).tr j7).tr k3, ((((g8.fl.tr j8.fl).tr k4.fl).tr Flr.u).tr Flr.u).tr Flr.u, Or.inr ⟨rfl, t3, a3, e3, m3, n3, φ, ((k6.putz (by omega)).putz (by omega)).putz (by omega), by omega, k8, ?_, ?_, ?_⟩⟩
  · obtain ⟨cs, c1, c2, c3⟩ := k9
    refine ⟨n, cs, ⟨hg, by omega, ?_, ?_, fun i hi => ?_⟩, by omega, fun f => c3 f []⟩
    · rw [uI_k _ _ _ _ _ (by omega), uI_e]
    · rw [uI_e, show n3 - n = cs.length by omega]
    · rw [uI_k _ _ _ _ _ (by omega), uI_k _ _ _ _ _ (by omega), uI_k _ _ _ _ _ (by omega)]
      exact c2 i hi
  · rw [uI_k _ _ _ _ _ (by omega), uI_k _ _ _ _ _ (by omega), uI_e]
  · intro k h1 h2 h3 h4 h5
    rw [uI_k _ _ _ _ _ h3, uI_k _ _ _ _ _ h2, uI_k _ _ _ _ _ h1]
    by_cases c : k < 396
    · rw [k4.2.2 k c, j6, g6]
    · obtain ⟨i, rfl⟩ : ∃ i, k = 397 + i := ⟨k - 397, by omega⟩
      rw [k11 i (by omega), j6, g6]
/-- the new law tells what the text told -/
theorem lw_new {T : Nat → Option (Nat × Nat)} {nn : Nat} {φ : Row → Int32} (hx : x + 3 < nn) (hm : m < 900) (h : SegC (I (x + 3)) 0 m 52 φ) : CLw (lwT T nn m) (lwI I nn x m) nn φ := by
  obtain ⟨h1, h2, h3⟩ := h
  have row : ∀ k, k < m → lwI I nn x m (nn + 1) k = I (x + 3) k := fun k hk => by
    unfold lwI
    rw [cpI_s, zI_n (show x + 3 ≠ nn + 1 by omega), zI_n (show x + 3 ≠ nn by omega)]
    unfold va_cpy
    rw [if_pos (by omega)]
    congr 1
    omega
  have hc : ∀ k, k < m → (I (x + 3) k).toNatClampNeg < 16000 ∧ I (x + 3) k = nI (I (x + 3) k).toNatClampNeg := fun k hk => by
    obtain ⟨c, c1, c2⟩ := h2 k (Nat.zero_le _) hk
    rw [c2, nI_cl (by omega)]
    exact ⟨c1, rfl⟩
  refine ⟨fun k => (I (x + 3) k).toNatClampNeg, m, ⟨by omega, ?_, fun k hk => ⟨(hc k hk).1, by rw [row k hk]; exact (hc k hk).2⟩⟩, fun f => h3 _ m f [] (fun k _ hk => hc k hk) (Nat.le_refl _) (by decide)⟩
  unfold lenT lwT
  rw [va_up_self]
end
