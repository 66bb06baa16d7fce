/-! whole tokens: the class and the reference see the same -/
def Tk (I : Nat → Nat → Int32) (x : Nat) (Iz : Nat → Nat → Int32) (z sz : Nat) (b : Nat → Nat) (t a e : Nat) : Prop := (Txt I x Iz z sz b ∧ t < 36 ∧ a ≤ e ∧ e ≤ sz ∧ (t ≠ 0 → a < e)) ∧ (I (x + 2) 4 = nI a ∧ I (x + 2) 5 = nI e ∧ I (x + 2) 6 = kcT.getD t 0) ∧ (Iz z 6 = nI a ∧ Iz z 7 = nI e ∧ Iz z 9 = krT.getD t 0) ∧ (t = 1 → ∃ w, w < 1000 ∧ I (x + 2) 7 = nI w ∧ Iz z 10 = nI w) ∧ Iz z 11 = 0 ∧ I (x + 2) 0 = (if t = 3 then 1 else 0) ∧ I (x + 2) 1 = (if t = 3 then nI a else -1)
theorem kc_3 : ∀ t, t < 36 → (kcT.getD t 0 = -1 ↔ t = 3) := by decide
theorem kr_3 : ∀ t, t < 36 → (krT.getD t 0 = 25 ↔ t = 3) := by decide
/-- how the class ends a token: a bad one is refused -/
def tlC (x : Nat) (I : Nat → Nat → Int32) : Option (Nat → Nat → Int32) := if (I (x + 2) 6) = (-1) then ((rd_refuse I x 1).bind (fun q22 => let u24 := q22.1; let I25 := q22.2; some I25)) else (some I)
section
variable {I Iz : Nat → Nat → Int32} {x z sz : Nat} {b : Nat → Nat}
theorem tail_c {t a : Nat} (ht : t < 36) (h0 : I (x + 2) 0 = 0) (h1 : I (x + 2) 1 = -1) (h4 : I (x + 2) 4 = nI a) (h6 : I (x + 2) 6 = kcT.getD t 0) : ∃ I3, tlC x I = some I3 ∧ Gd I I3 x ∧ (∀ k, k ≠ 0 → k ≠ 1 → I3 (x + 2) k = I (x + 2) k) ∧ I3 (x + 2) 0 = (if t = 3 then 1 else 0) ∧ I3 (x + 2) 1 = (if t = 3 then nI a else -1) := by
  unfold tlC
  rw [h6]
  by_cases c : t = 3
  · rw [if_pos ((kc_3 t ht).mpr c), if_pos c, if_pos c]
    unfold rd_refuse
    rw [if_pos h0]
    try dsimp only
    rw [Option.bind_some]
    try dsimp only
    rw [uI_k _ _ _ _ _ (show 4 ≠ 0 by decide), h4]
    exact ⟨_, rfl, (Gd.u (by omega)).tr (Gd.u (by omega)), fun k k0 k1 => by rw [uI_k _ _ _ _ _ k1, uI_k _ _ _ _ _ k0], by rw [uI_k _ _ _ _ _ (by decide), uI_e], uI_e _ _ _ _⟩
  · rw [if_neg (fun cc => c ((kc_3 t ht).mp cc)), if_neg c, if_neg c]
    exact ⟨_, rfl, Gd.rf, fun _ _ _ => rfl, h0, h1⟩
/-- a word -/
theorem word_is {a : Nat} (hT : Txt I x Iz z sz b) (ha : a < sz) (hl : isLt (b a) = true) (h4 : I (x + 2) 4 = nI a) (h5 : I (x + 2) 5 = nI a) (h6 : Iz z 6 = nI a) (h7 : Iz z 7 = nI a) : ∃ t e I1 Iz1, ((rd_takeToken_94 2000 x 2000 I).bind (fun q79 => let I81 := q79; (rd_kindOfWord 2000 I81 x ((I81 (x + 2) 5) - (I81 (x + 2) 4))).bind (fun q82 => let u84 := q82; let I85 := uI I81 (x + 2) 6 u84; tlC x I85))) = tlC x I1 ∧ ((r_nextToken_89 2000 z 2000 Iz).bind (fun q77 => let I79 := q77; (r_keyAt 2000 I79 z).bind (fun q80 => let u82 := q80; let I83 := uI I79 z 9 u82; some I83))) = some Iz1 ∧ (t = 2 ∨ 16 ≤ t) ∧ t < 36 ∧ a < e ∧ e ≤ sz ∧ I1 (x + 2) 5 = nI e ∧ I1 (x + 2) 6 = kcT.getD t 0 ∧ Iz1 z 7 = nI e ∧ Iz1 z 9 = krT.getD t 0 ∧ Gd I I1 x ∧ Gz Iz Iz1 z ∧ (∀ q, q ≠ 5 → q ≠ 6 → I1 (x + 2) q = I (x + 2) q) ∧ (∀ q, q ≠ 7 → q ≠ 9 → Iz1 z q = Iz z q) := by
  have hs := hT.1
  obtain ⟨e, I1, Iz1, e1, e2, e3, e4, e5, e6, e7, e8, e9, e10, e11, e12⟩ := letters_go (sz - a) a 2000 2000 I Iz (by omega) (by omega) (by omega) hT h5 h7
  have hae : a < e := by
    by_cases c : a = e
    · subst c
      have := e8 ha
      rw [hl] at this
      cases this
    · omega
  unfold rd_kindOfWord r_keyAt
  rw [e1, e2, Option.bind_some, Option.bind_some]
  try dsimp only
  rw [e5, e11 4 (by decide), h4, nI_SB e3]
  have hT1 := hT.go e9 e10
  obtain ⟨l, ew⟩ := cwords_go (I := I1) (a := a) (L := e - a) hT1 (by rw [e11 4 (by decide)]; exact h4) (by omega) (fun i h1 h2 => e7 i h1 (by omega)) ws0 0 0 2000 lay0 (by omega) (by omega) (by decide)
  have ew : rd_kindOfWord_7 2000 I1 x (nI (e - a)) 2000 0 0 0 = _ := ew
  rw [ew, Option.bind_some]
  have er := rwords_go (Iz := Iz1) (a := a) (L := e - a) hT1 (by rw [e12 6 (by decide)]; exact h6) (by rw [e6, show a + (e - a) = e by omega]) (by omega) ws2 1 0 2000 lay2 (by decide) (by decide)
  rcases fidx_2 (t := tkn b a (e - a)) with ⟨k, k1, k2, k3⟩ | ⟨k2, k3⟩
  · rw [k2]
    try dsimp only
    rw [Option.bind_some]
    try dsimp only
    rcases er with ⟨k', e14, e15⟩ | ⟨e14, _⟩
    · rw [k3] at e14
      injection e14 with e14
      have e15 : r_keyAt_4 2000 Iz1 z 2000 0 1 = _ := e15
      rw [e15, Option.bind_some]
      try dsimp only
      rw [Option.bind_some]
      try dsimp only
      rw [← e14]
      have tb : ∀ k, k < 20 → nI (200 + (0 + k)) = kcT.getD (16 + k) 0 ∧ nI (0 + wperm.getD k 0) = krT.getD (16 + k) 0 := by decide
      refine ⟨16 + k, e, _, _, rfl, rfl, Or.inr (by omega), by omega, hae, e4, ?_, ?_, ?_, ?_, e9.tr (Gd.u (by omega)), e10.tr (Gz.u (by omega)), fun q h1 h2 => ?_, fun q h1 h2 => ?_⟩
      · rw [uI_k _ _ _ _ _ (by decide)]; exact e5
      · rw [uI_e]; exact (tb k k1).1
      · rw [uI_k _ _ _ _ _ (by decide)]; exact e6
      · rw [uI_e]; exact (tb k k1).2
      · rw [uI_k _ _ _ _ _ h2]; exact e11 q h1
      · rw [uI_k _ _ _ _ _ h2]; exact e12 q h1
    · rw [k3] at e14
      cases e14
  · rw [k2]
    try dsimp only
    rw [Option.bind_some]
    try dsimp only
    rcases er with ⟨k', e14, e15⟩ | ⟨e14, y, e15⟩
    · rw [k3] at e14
      cases e14
    · have e15 : r_keyAt_4 2000 Iz1 z 2000 0 1 = _ := e15
      rw [e15, Option.bind_some]
      try dsimp only
      rw [Option.bind_some]
      try dsimp only
      refine ⟨2, e, _, _, rfl, rfl, Or.inl rfl, by omega, hae, e4, ?_, ?_, ?_, ?_, e9.tr (Gd.u (by omega)), e10.tr (Gz.u (by omega)), fun q h1 h2 => ?_, fun q h1 h2 => ?_⟩
      · rw [uI_k _ _ _ _ _ (by decide)]; exact e5
      · rw [uI_e]; rfl
      · rw [uI_k _ _ _ _ _ (by decide)]; exact e6
      · rw [uI_e]; rfl
      · rw [uI_k _ _ _ _ _ h2]; exact e11 q h1
      · rw [uI_k _ _ _ _ _ h2]; exact e12 q h1
/-- a number -/
theorem num_is {a : Nat} (hT : Txt I x Iz z sz b) (ha : a < sz) (hl : isDg (b a) = true) (h4 : I (x + 2) 4 = nI a) (h5 : I (x + 2) 5 = nI a) (h6 : Iz z 6 = nI a) (h7 : Iz z 7 = nI a) : ∃ t e w I1 Iz1, ((rd_takeToken_168 2000 x 2000 I).bind (fun q46 => let I48 := q46; if ((I48 (x + 2) 5) - (I48 (x + 2) 4)) ≤ 3 then (let I50 := uI I48 (x + 2) 6 1; (rd_numberTold 2000 I50 x).bind (fun q52 => let u54 := q52; let I55 := uI I50 (x + 2) 7 u54; tlC x I55)) else (let I62 := uI I48 (x + 2) 6 (-1); (rd_numberTold 2000 I62 x).bind (fun q64 => let u66 := q64; let I67 := uI I62 (x + 2) 7 u66; tlC x I67)))) = tlC x I1 ∧ (let I47 := uI Iz z 10 0; (r_nextToken_146 2000 z 2000 I47).bind (fun q63 => let I65 := q63; if ((I65 z 7) - (I65 z 6)) ≤ 3 then (let I67 := uI I65 z 9 23; some I67) else (let I69 := uI I65 z 9 25; some I69))) = some Iz1 ∧ (t = 1 ∨ t = 3) ∧ a < e ∧ e ≤ sz ∧ I1 (x + 2) 5 = nI e ∧ I1 (x + 2) 6 = kcT.getD t 0 ∧ Iz1 z 7 = nI e ∧ Iz1 z 9 = krT.getD t 0 ∧ w < 1000 ∧ I1 (x + 2) 7 = nI w ∧ Iz1 z 10 = nI w ∧ Gd I I1 x ∧ Gz Iz Iz1 z ∧ (∀ q, q ≠ 5 → q ≠ 6 → q ≠ 7 → I1 (x + 2) q = I (x + 2) q) ∧ (∀ q, q ≠ 7 → q ≠ 9 → q ≠ 10 → Iz1 z q = Iz z q) := by
  have hs := hT.1
  have gz : Gz Iz (uI Iz z 10 0) z := Gz.u (by omega)
  obtain ⟨e, w, I1, Iz1, e1, e2, e3, e4, e5, e6, e7, e8, e9, e10, e11, e12, e13, e14, e15⟩ := digits_go (a := a) (sz - a) a 2000 2000 0 I (uI Iz z 10 0) (by omega) (by omega) (by omega) (Nat.le_refl _) (by rw [Nat.sub_self]; decide) (by rw [Nat.sub_self]; rfl) (fun i h1 h2 => by omega) (hT.go Gd.rf gz) (by rw [uI_k _ _ _ _ _ (by decide)]; exact h6) h5 (by rw [uI_k _ _ _ _ _ (by decide)]; exact h7) (uI_e _ _ _ _)
  have hae := e10 ha hl
  have hT1 := (hT.go Gd.rf gz).go e11 e12
  have tol : ∀ v : Int32, rd_numberTold 2000 (uI I1 (x + 2) 6 v) x = some (nI w) := fun v =>
    told_is (Iz := Iz1) (a := a) (e := e) (hT1.go (Gd.u (by omega)) Gz.rf) (by rw [uI_k _ _ _ _ _ (by decide), e13 4 (by decide)]; exact h4) (by rw [uI_k _ _ _ _ _ (by decide)]; exact e5) (by omega) e4 e7 e15
  rw [e1, Option.bind_some]
  try dsimp only
  rw [e2, Option.bind_some]
  try dsimp only
  rw [e5, e6, e13 4 (by decide), h4, e14 6 (by decide) (by decide), uI_k _ _ _ _ _ (show 6 ≠ 10 by decide), h6, nI_SB e3]
  by_cases c : e - a ≤ 3
  · rw [if_pos (show nI (e - a) ≤ 3 from nI_le (b := 3) c (by decide)), if_pos (show nI (e - a) ≤ 3 from nI_le (b := 3) c (by decide))]
    try dsimp only
    rw [tol (1), Option.bind_some]
    try dsimp only
    refine ⟨1, e, w, _, _, rfl, rfl, Or.inl rfl, hae, e4, ?_, ?_, ?_, ?_, e9, ?_, ?_, (e11.tr (Gd.u (by omega))).tr (Gd.u (by omega)), (gz.tr e12).tr (Gz.u (by omega)), fun q h1 h2 h3 => ?_, fun q h1 h2 h3 => ?_⟩
    · rw [uI_k _ _ _ _ _ (by decide), uI_k _ _ _ _ _ (by decide)]; exact e5
    · rw [uI_k _ _ _ _ _ (by decide), uI_e]; rfl
    · rw [uI_k _ _ _ _ _ (by decide)]; exact e6
    · rw [uI_e]; rfl
    · rw [uI_e]
    · rw [uI_k _ _ _ _ _ (by decide)]; exact e8
    · rw [uI_k _ _ _ _ _ h3, uI_k _ _ _ _ _ h2, e13 q h1]
    · rw [uI_k _ _ _ _ _ h2, e14 q h1 h3, uI_k _ _ _ _ _ h3]
  · rw [if_neg (show ¬ nI (e - a) ≤ 3 from nI_ge (a := 3) (by omega) (by omega)), if_neg (show ¬ nI (e - a) ≤ 3 from nI_ge (a := 3) (by omega) (by omega))]
    try dsimp only
    rw [tol (-1), Option.bind_some]
    try dsimp only
    refine ⟨3, e, w, _, _, rfl, rfl, Or.inr rfl, hae, e4, ?_, ?_, ?_, ?_, e9, ?_, ?_, (e11.tr (Gd.u (by omega))).tr (Gd.u (by omega)), (gz.tr e12).tr (Gz.u (by omega)), fun q h1 h2 h3 => ?_, fun q h1 h2 h3 => ?_⟩
    · rw [uI_k _ _ _ _ _ (by decide), uI_k _ _ _ _ _ (by decide)]; exact e5
    · rw [uI_k _ _ _ _ _ (by decide), uI_e]; rfl
    · rw [uI_k _ _ _ _ _ (by decide)]; exact e6
    · rw [uI_e]; rfl
    · rw [uI_e]
    · rw [uI_k _ _ _ _ _ (by decide)]; exact e8
    · rw [uI_k _ _ _ _ _ h3, uI_k _ _ _ _ _ h2, e13 q h1]
    · rw [uI_k _ _ _ _ _ h2, e14 q h1 h3, uI_k _ _ _ _ _ h3]
/-- a sign -/
theorem sign_is {a : Nat} (hT : Txt I x Iz z sz b) (ha : a < sz) (h4 : I (x + 2) 4 = nI a) (h5 : I (x + 2) 5 = nI a) (h6 : Iz z 6 = nI a) (h7 : Iz z 7 = nI a) : ∃ t I1 Iz1, (let I18 := uI I (x + 2) 5 ((I (x + 2) 5) + 1); chk (I18 (x + 2) 4) 900 (let x21 := ((Int32.toUInt32 ((I18 (x + 1) (Int32.toNatClampNeg (I18 (x + 2) 4))) &&& 255) % 65536).toInt32); (js_indexOf 2000 (sbs 1) x21).bind (fun q23 => let u25 := q23; if u25 < 0 then (let I27 := uI I18 (x + 2) 6 (-1); tlC x I27) else (let I34 := uI I18 (x + 2) 6 x21; tlC x I34)))) = tlC x I1 ∧ (let I29 := uI Iz z 7 ((Iz z 7) + 1); let I31 := uI I29 z 9 25; (r_nextToken_254 2000 z 2000 0 I31).bind (fun q43 => let m45 := q43.1; let I46 := q43.2; some I46)) = some Iz1 ∧ 3 ≤ t ∧ t < 16 ∧ I1 (x + 2) 5 = nI (a + 1) ∧ I1 (x + 2) 6 = kcT.getD t 0 ∧ Iz1 z 7 = nI (a + 1) ∧ Iz1 z 9 = krT.getD t 0 ∧ Gd I I1 x ∧ Gz Iz Iz1 z ∧ (∀ q, q ≠ 5 → q ≠ 6 → I1 (x + 2) q = I (x + 2) q) ∧ (∀ q, q ≠ 7 → q ≠ 9 → Iz1 z q = Iz z q) := by
  have hs := hT.1
  obtain ⟨b1, b2', b3⟩ := hT.2.1 a ha
  obtain ⟨t, ht⟩ := sign_t _ b1
  have gz : Gz Iz (uI (uI Iz z 7 (nI (a + 1))) z 9 25) z := (Gz.u (by omega)).tr (Gz.u (by omega))
  obtain ⟨Iz1, e1, e2, e3, e4⟩ := rsign_go (I := I) (x := x) ha 12 0 2000 (uI (uI Iz z 7 (nI (a + 1))) z 9 25) (by omega) (by omega) (hT.go Gd.rf gz) (by rw [uI_k _ _ _ _ _ (by decide), uI_k _ _ _ _ _ (by decide)]; exact h6) (uI_e _ _ _ _)
  have e1 : r_nextToken_254 2000 z 2000 0 (uI (uI Iz z 7 (nI (a + 1))) z 9 25) = _ := e1
  try dsimp only
  rw [h5, nI_1, h7, nI_1, uI_k _ _ _ _ _ (show 4 ≠ 5 by decide), h4, chk_nI (show a < 900 by omega) (by decide), nI_cl (show a < 2147483648 by omega), uI_row _ _ _ _ _ (show x + 1 ≠ x + 2 by omega), b3]
  try dsimp only
  rw [e1, Option.bind_some]
  try dsimp only
  rw [show (Int32.toUInt32 (sg (b a) &&& 255) % 65536).toInt32 = nI (b a) from x2_t _ b1]
  have fz : ∀ q, q ≠ 7 → q ≠ 9 → Iz1 z q = Iz z q := fun q h1 h2 => by rw [e4 q h2, uI_k _ _ _ _ _ h2, uI_k _ _ _ _ _ h1]
  have gz1 : Gz Iz Iz1 z := gz.tr ⟨e3, fun k _ _ h9 _ => e4 k h9⟩
  rcases ht with ⟨c1, c2, c3⟩ | ⟨c1, c1', c2, ⟨i, c3, c4⟩, c5⟩
  · rw [c2, Option.bind_some]
    try dsimp only
    rw [if_pos (by decide)]
    subst c1
    refine ⟨3, _, _, rfl, rfl, by omega, by omega, ?_, ?_, ?_, ?_, (Gd.u (by omega)).tr (Gd.u (by omega)), gz1, fun q h1 h2 => ?_, fz⟩
    · rw [uI_k _ _ _ _ _ (by decide), uI_e]
    · rw [uI_e]; rfl
    · rw [e4 7 (by decide), uI_k _ _ _ _ _ (by decide), uI_e]
    · rw [e2, c3]; rfl
    · rw [uI_k _ _ _ _ _ h2, uI_k _ _ _ _ _ h1]
  · rw [c3, Option.bind_some]
    try dsimp only
    rw [if_neg c4]
    refine ⟨t, _, _, rfl, rfl, by omega, by omega, ?_, ?_, ?_, ?_, (Gd.u (by omega)).tr (Gd.u (by omega)), gz1, fun q h1 h2 => ?_, fz⟩
    · rw [uI_k _ _ _ _ _ (by decide), uI_e]
    · rw [uI_e]; exact c2.symm
    · rw [e4 7 (by decide), uI_k _ _ _ _ _ (by decide), uI_e]
    · rw [e2, c5]
    · rw [uI_k _ _ _ _ _ h2, uI_k _ _ _ _ _ h1]
theorem tok_is {e0 : Nat} (hT : Txt I x Iz z sz b) (h5 : I (x + 2) 5 = nI e0) (h7 : Iz z 7 = nI e0) (he : e0 ≤ sz) (h0 : I (x + 2) 0 = 0) (h1 : I (x + 2) 1 = -1) (h11 : Iz z 11 = 0) : ∃ t a e I1 Iz1, rd_takeToken 2000 I x = some I1 ∧ r_nextToken 2000 Iz z = some Iz1 ∧ Tk I1 x Iz1 z sz b t a e ∧ e0 ≤ a ∧ Gd I I1 x ∧ Gz Iz Iz1 z := by
  have hs := hT.1
  have gz : Gz Iz (uI Iz z 6 (nI e0)) z := Gz.u (by omega)
  obtain ⟨a, I1, Iz1, e1, e2, e3, e4, e5, e6, e7, e8, e9, e10, e11⟩ := blank_go (sz - e0) e0 2000 2000 I (uI Iz z 6 (nI e0)) (by omega) (by omega) (by omega) (hT.go Gd.rf gz) h5 (uI_e _ _ _ _)
  have gd2 : Gd I1 (uI I1 (x + 2) 4 (nI a)) x := Gd.u (by omega)
  have gz2 : Gz Iz1 (uI Iz1 z 7 (nI a)) z := Gz.u (by omega)
  have hT2 : Txt (uI I1 (x + 2) 4 (nI a)) x (uI Iz1 z 7 (nI a)) z sz b := ((hT.go Gd.rf gz).go e8 e9).go gd2 gz2
  have f4 : uI I1 (x + 2) 4 (nI a) (x + 2) 4 = nI a := uI_e _ _ _ _
  have f5 : uI I1 (x + 2) 4 (nI a) (x + 2) 5 = nI a := by rw [uI_k _ _ _ _ _ (by decide)]; exact e5
  have f0 : uI I1 (x + 2) 4 (nI a) (x + 2) 0 = 0 := by rw [uI_k _ _ _ _ _ (by decide), e10 0 (by decide)]; exact h0
  have f1 : uI I1 (x + 2) 4 (nI a) (x + 2) 1 = -1 := by rw [uI_k _ _ _ _ _ (by decide), e10 1 (by decide)]; exact h1
  have f6 : uI Iz1 z 7 (nI a) z 6 = nI a := by rw [uI_k _ _ _ _ _ (by decide)]; exact e6
  have f7 : uI Iz1 z 7 (nI a) z 7 = nI a := uI_e _ _ _ _
  have f11 : uI Iz1 z 7 (nI a) z 11 = 0 := by rw [uI_k _ _ _ _ _ (by decide), e11 11 (by decide), uI_k _ _ _ _ _ (by decide)]; exact h11
  have gdd := e8.tr gd2
  have gzz := (gz.tr e9).tr gz2
  unfold rd_takeToken r_nextToken
  try dsimp only
  rw [h7, e1, Option.bind_some]
  try dsimp only
  rw [e2, Option.bind_some]
  try dsimp only
  rw [e5, e6]
  generalize uI I1 (x + 2) 4 (nI a) = I2 at *
  generalize uI Iz1 z 7 (nI a) = Iz2 at *
  rw [f4, f6, hT2.2.2.1, hT2.2.2.2]
  by_cases c : a < sz
  · obtain ⟨b1, b2', b3⟩ := hT2.2.1 a c
    rw [if_pos (nI_lt c (by omega)), if_pos (nI_lt c (by omega)), chk_nI (show a < 900 by omega) (by decide), nI_cl (show a < 2147483648 by omega), b3, sg_lt _ b1, sg_dg _ b1, see_in hT2 c, Option.bind_some]
    try dsimp only
    rw [rb_lt _ b1, Option.bind_some]
    try dsimp only
    rw [rb_dg _ b1]
    cases hl : isLt (b a) with
    | true =>
      rw [if_neg (show ¬ b2 true = 0 by decide), if_neg (show ¬ b2 true = 0 by decide)]
      obtain ⟨t, e, I3, Iz3, g1, g2, g3, g4, g5, g6, g7, g8, g9, g10, g11, g12, g13, g14⟩ := word_is hT2 c hl f4 f5 f6 f7
      obtain ⟨I4, k1, k2, k3, k4, k5⟩ := tail_c (I := I3) (t := t) (a := a) g4 (by rw [g13 0 (by decide) (by decide)]; exact f0) (by rw [g13 1 (by decide) (by decide)]; exact f1) (by rw [g13 4 (by decide) (by decide)]; exact f4) g8
      refine ⟨t, a, e, I4, Iz3, g1.trans k1, g2, ⟨⟨(hT2.go g11 g12).go k2 Gz.rf, g4, by omega, g6, fun _ => g5⟩, ⟨?_, ?_, ?_⟩, ⟨?_, g9, g10⟩, fun cc => by omega, ?_, k4, k5⟩, e3, (gdd.tr g11).tr k2, gzz.tr g12⟩
      · rw [k3 4 (by decide) (by decide), g13 4 (by decide) (by decide)]; exact f4
      · rw [k3 5 (by decide) (by decide)]; exact g7
      · rw [k3 6 (by decide) (by decide)]; exact g8
      · rw [g14 6 (by decide) (by decide)]; exact f6
      · rw [g14 11 (by decide) (by decide)]; exact f11
    | false =>
      rw [if_pos (show b2 false = 0 from rfl), if_pos (show b2 false = 0 from rfl)]
      cases hd : isDg (b a) with
      | true =>
        rw [if_neg (show ¬ b2 true = 0 by decide), if_neg (show ¬ b2 true = 0 by decide)]
        obtain ⟨t, e, w, I3, Iz3, g1, g2, g3, g5, g6, g7, g8, g9, g10, gw, gw1, gw2, g11, g12, g13, g14⟩ := num_is hT2 c hd f4 f5 f6 f7
        obtain ⟨I4, k1, k2, k3, k4, k5⟩ := tail_c (I := I3) (t := t) (a := a) (by omega) (by rw [g13 0 (by decide) (by decide) (by decide)]; exact f0) (by rw [g13 1 (by decide) (by decide) (by decide)]; exact f1) (by rw [g13 4 (by decide) (by decide) (by decide)]; exact f4) g8
        refine ⟨t, a, e, I4, Iz3, g1.trans k1, g2, ⟨⟨(hT2.go g11 g12).go k2 Gz.rf, by omega, by omega, g6, fun _ => g5⟩, ⟨?_, ?_, ?_⟩, ⟨?_, g9, g10⟩, fun cc => ⟨w, gw, ?_, gw2⟩, ?_, k4, k5⟩, e3, (gdd.tr g11).tr k2, gzz.tr g12⟩
        · rw [k3 4 (by decide) (by decide), g13 4 (by decide) (by decide) (by decide)]; exact f4
        · rw [k3 5 (by decide) (by decide)]; exact g7
        · rw [k3 6 (by decide) (by decide)]; exact g8
        · rw [g14 6 (by decide) (by decide) (by decide)]; exact f6
        · rw [k3 7 (by decide) (by decide)]; exact gw1
        · rw [g14 11 (by decide) (by decide) (by decide)]; exact f11
      | false =>
        rw [if_pos (show b2 false = 0 from rfl), if_pos (show b2 false = 0 from rfl)]
        obtain ⟨t, I3, Iz3, g1, g2, g3, g4, g7, g8, g9, g10, g11, g12, g13, g14⟩ := sign_is hT2 c f4 f5 f6 f7
        obtain ⟨I4, k1, k2, k3, k4, k5⟩ := tail_c (I := I3) (t := t) (a := a) (by omega) (by rw [g13 0 (by decide) (by decide)]; exact f0) (by rw [g13 1 (by decide) (by decide)]; exact f1) (by rw [g13 4 (by decide) (by decide)]; exact f4) g8
        refine ⟨t, a, a + 1, I4, Iz3, g1.trans k1, g2, ⟨⟨(hT2.go g11 g12).go k2 Gz.rf, by omega, by omega, by omega, fun _ => by omega⟩, ⟨?_, ?_, ?_⟩, ⟨?_, g9, g10⟩, fun cc => by omega, ?_, k4, k5⟩, e3, (gdd.tr g11).tr k2, gzz.tr g12⟩
        · rw [k3 4 (by decide) (by decide), g13 4 (by decide) (by decide)]; exact f4
        · rw [k3 5 (by decide) (by decide)]; exact g7
        · rw [k3 6 (by decide) (by decide)]; exact g8
        · rw [g14 6 (by decide) (by decide)]; exact f6
        · rw [g14 11 (by decide) (by decide)]; exact f11
  · rw [if_neg (nI_nlt (by omega) (by omega)), if_neg (nI_nlt (by omega) (by omega))]
    try dsimp only
    have gd3 : Gd I2 (uI I2 (x + 2) 6 0) x := Gd.u (by omega)
    have gz3 : Gz Iz2 (uI Iz2 z 9 24) z := Gz.u (by omega)
    obtain ⟨I4, k1, k2, k3, k4, k5⟩ := tail_c (I := uI I2 (x + 2) 6 0) (x := x) (t := 0) (a := a) (by omega) (by rw [uI_k _ _ _ _ _ (by decide)]; exact f0) (by rw [uI_k _ _ _ _ _ (by decide)]; exact f1) (by rw [uI_k _ _ _ _ _ (by decide)]; exact f4) (uI_e _ _ _ _)
    refine ⟨0, a, a, I4, _, k1, rfl, ⟨⟨(hT2.go gd3 gz3).go k2 Gz.rf, by omega, Nat.le_refl _, by omega, fun cc => absurd rfl cc⟩, ⟨?_, ?_, ?_⟩, ⟨?_, ?_, uI_e _ _ _ _⟩, fun cc => by omega, ?_, k4, k5⟩, e3, (gdd.tr gd3).tr k2, gzz.tr gz3⟩
    · rw [k3 4 (by decide) (by decide), uI_k _ _ _ _ _ (by decide)]; exact f4
    · rw [k3 5 (by decide) (by decide), uI_k _ _ _ _ _ (by decide)]; exact f5
    · rw [k3 6 (by decide) (by decide), uI_e]; rfl
    · rw [uI_k _ _ _ _ _ (by decide)]; exact f6
    · rw [uI_k _ _ _ _ _ (by decide)]; exact f7
    · rw [uI_k _ _ _ _ _ (by decide)]; exact f11
end
