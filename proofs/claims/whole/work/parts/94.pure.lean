/-! tokens on both sides -/
def sg (b : Nat) : Int32 := (Int32.toInt8 (nI b)).toInt32
def Txt (I : Nat → Nat → Int32) (x : Nat) (Iz : Nat → Nat → Int32) (z sz : Nat) (b : Nat → Nat) : Prop := sz ≤ 900 ∧ (∀ k, k < sz → b k < 256 ∧ Iz (z + 3) k = nI (b k) ∧ I (x + 1) k = sg (b k)) ∧ I (x + 2) 3 = nI sz ∧ Iz z 8 = nI sz
def isLt (b : Nat) : Bool := Nat.ble 97 b && Nat.ble b 122
def isDg (b : Nat) : Bool := Nat.ble 48 b && Nat.ble b 57
theorem sg_10 : ∀ b, b < 256 → (sg b = 10 ↔ b = 10) := by decide +kernel
theorem sg_32 : ∀ b, b < 256 → (sg b = 32 ↔ b = 32) := by decide +kernel
theorem sg_lt : ∀ b, b < 256 → rd_isLetter (sg b) = b2 (isLt b) := by decide +kernel
theorem sg_dg : ∀ b, b < 256 → rd_isDigit (sg b) = b2 (isDg b) := by decide +kernel
theorem rb_lt : ∀ b, b < 256 → r_isSmall (nI b) = b2 (isLt b) := by decide +kernel
theorem rb_dg : ∀ b, b < 256 → r_isDigit (nI b) = b2 (isDg b) := by decide +kernel
theorem sg_eq : ∀ b, b < 128 → sg b = nI b := by decide +kernel
theorem neg_lt : r_isSmall (-1) = 0 := by decide
theorem neg_dg : r_isDigit (-1) = 0 := by decide
/-- what the class, and what the reference, writes while it takes a token -/
def Gd (I I1 : Nat → Nat → Int32) (x : Nat) : Prop := (∀ q, q ≠ x + 2 → I1 q = I q) ∧ ∀ k, k ≠ 0 → k ≠ 1 → k ≠ 4 → k ≠ 5 → k ≠ 6 → k ≠ 7 → I1 (x + 2) k = I (x + 2) k
def Gz (I I1 : Nat → Nat → Int32) (z : Nat) : Prop := (∀ q, q ≠ z → I1 q = I q) ∧ ∀ k, k ≠ 6 → k ≠ 7 → k ≠ 9 → k ≠ 10 → I1 z k = I z k
theorem Gd.rf {I : Nat → Nat → Int32} {x : Nat} : Gd I I x := ⟨fun _ _ => rfl, fun _ _ _ _ _ _ _ => rfl⟩
theorem Gd.tr {I I1 I2 : Nat → Nat → Int32} {x : Nat} (h : Gd I I1 x) (h2 : Gd I1 I2 x) : Gd I I2 x := ⟨fun q hq => (h2.1 q hq).trans (h.1 q hq), fun k a b c d e f => (h2.2 k a b c d e f).trans (h.2 k a b c d e f)⟩
theorem Gz.rf {I : Nat → Nat → Int32} {z : Nat} : Gz I I z := ⟨fun _ _ => rfl, fun _ _ _ _ _ => rfl⟩
theorem Gz.tr {I I1 I2 : Nat → Nat → Int32} {z : Nat} (h : Gz I I1 z) (h2 : Gz I1 I2 z) : Gz I I2 z := ⟨fun q hq => (h2.1 q hq).trans (h.1 q hq), fun k a b c d => (h2.2 k a b c d).trans (h.2 k a b c d)⟩
theorem Gd.u {I : Nat → Nat → Int32} {x k : Nat} {v : Int32} (h : k = 0 ∨ k = 1 ∨ k = 4 ∨ k = 5 ∨ k = 6 ∨ k = 7) : Gd I (uI I (x + 2) k v) x := ⟨fun q hq => uI_row _ _ _ _ _ hq, fun j a b c d e f => uI_k _ _ _ _ _ (by omega)⟩
theorem Gz.u {I : Nat → Nat → Int32} {z k : Nat} {v : Int32} (h : k = 6 ∨ k = 7 ∨ k = 9 ∨ k = 10) : Gz I (uI I z k v) z := ⟨fun q hq => uI_row _ _ _ _ _ hq, fun j a b c d => uI_k _ _ _ _ _ (by omega)⟩
theorem Txt.go {I I1 Iz Iz1 : Nat → Nat → Int32} {x z sz : Nat} {b : Nat → Nat} (h : Txt I x Iz z sz b) (hx : Gd I I1 x) (hz : Gz Iz Iz1 z) : Txt I1 x Iz1 z sz b := by
  obtain ⟨h1, h2, h3, h4⟩ := h
  refine ⟨h1, fun k hk => ?_, by rw [hx.2 3 (by decide) (by decide) (by decide) (by decide) (by decide) (by decide)]; exact h3, by rw [hz.2 8 (by decide) (by decide) (by decide) (by decide)]; exact h4⟩
  rw [hx.1 _ (by omega), hz.1 _ (by omega)]
  exact h2 k hk
/-- the number that the first digits from a on tell -/
def dval (b : Nat → Nat) (a : Nat) : Nat → Nat
  | 0 => 0
  | i + 1 => 10 * dval b a i + b (a + i) - 48
section
variable {I Iz : Nat → Nat → Int32} {x z sz : Nat} {b : Nat → Nat}
theorem see_in {k : Nat} (h : Txt I x Iz z sz b) (hk : k < sz) : r_see Iz z (nI k) = some (nI (b k)) := by
  obtain ⟨h1, h2, h3, h4⟩ := h
  unfold r_see
  rw [h4, if_neg (nI_ge hk (by omega)), chk_nI (show k < 900 by omega) (by decide), nI_cl (by omega), (h2 k hk).2.1]
theorem see_out {k : Nat} (h : Txt I x Iz z sz b) (hk : sz ≤ k) (hk2 : k < 10000) : r_see Iz z (nI k) = some (-1) := by
  unfold r_see
  rw [h.2.2.2, if_pos (nI_le hk (by omega))]
/-- blanks are passed over -/
theorem blank_go : ∀ (j k f g : Nat) (I Iz : Nat → Nat → Int32), k + j = sz → j < f → j < g → Txt I x Iz z sz b → I (x + 2) 5 = nI k → Iz z 6 = nI k → ∃ a I1 Iz1, rd_takeToken_0 2000 x f I = some I1 ∧ r_nextToken_8 2000 z g Iz = some Iz1 ∧ k ≤ a ∧ a ≤ sz ∧ I1 (x + 2) 5 = nI a ∧ Iz1 z 6 = nI a ∧ (a < sz → b a ≠ 10 ∧ b a ≠ 32) ∧ Gd I I1 x ∧ Gz Iz Iz1 z ∧ (∀ q, q ≠ 5 → I1 (x + 2) q = I (x + 2) q) ∧ (∀ q, q ≠ 6 → Iz1 z q = Iz z q) := by
  intro j
  induction j with
  | zero =>
    intro k f g I Iz hk hf hg hT h5 h6
    obtain ⟨f, rfl⟩ : ∃ f', f = f' + 1 := ⟨f - 1, by omega⟩
    obtain ⟨g, rfl⟩ : ∃ f', g = f' + 1 := ⟨g - 1, by omega⟩
    obtain rfl : k = sz := by omega
    have hs := hT.1
    refine ⟨k, I, Iz, ?_, ?_, Nat.le_refl _, Nat.le_refl _, h5, h6, fun cc => by omega, Gd.rf, Gz.rf, fun _ _ => rfl, fun _ _ => rfl⟩
    · rw [rd_takeToken_0, hT.2.2.1, h5, if_pos (nI_le (Nat.le_refl _) (by omega))]
    · rw [r_nextToken_8, h6, see_out hT (Nat.le_refl _) (by omega), Option.bind_some]
      try dsimp only
      rw [if_neg (show ¬ (-1 : Int32) = 10 by decide), Option.bind_some]
      try dsimp only
      rw [if_neg (show ¬ (-1 : Int32) = 32 by decide)]
  | succ j ih =>
    intro k f g I Iz hk hf hg hT h5 h6
    obtain ⟨f, rfl⟩ : ∃ f', f = f' + 1 := ⟨f - 1, by omega⟩
    obtain ⟨g, rfl⟩ : ∃ f', g = f' + 1 := ⟨g - 1, by omega⟩
    have hs := hT.1
    obtain ⟨b1, b2', b3⟩ := hT.2.1 k (by omega)
    have blank : b k = 10 ∨ b k = 32 → ∃ a I1 Iz1, rd_takeToken_0 2000 x f (uI I (x + 2) 5 (nI (k + 1))) = some I1 ∧ r_nextToken_8 2000 z g (uI Iz z 6 (nI (k + 1))) = some Iz1 ∧ k ≤ a ∧ a ≤ sz ∧ I1 (x + 2) 5 = nI a ∧ Iz1 z 6 = nI a ∧ (a < sz → b a ≠ 10 ∧ b a ≠ 32) ∧ Gd I I1 x ∧ Gz Iz Iz1 z ∧ (∀ q, q ≠ 5 → I1 (x + 2) q = I (x + 2) q) ∧ (∀ q, q ≠ 6 → Iz1 z q = Iz z q) := fun _ => by
      have fd : Gd I (uI I (x + 2) 5 (nI (k + 1))) x := Gd.u (by omega)
      have fz : Gz Iz (uI Iz z 6 (nI (k + 1))) z := Gz.u (by omega)
      obtain ⟨a, I1, Iz1, e1, e2, e3, e4, e5, e6, e7, e8, e9, e10, e11⟩ := ih (k + 1) f g _ _ (by omega) (by omega) (by omega) (hT.go fd fz) (uI_e _ _ _ _) (uI_e _ _ _ _)
      exact ⟨a, I1, Iz1, e1, e2, by omega, e4, e5, e6, e7, fd.tr e8, fz.tr e9, fun q hq => by rw [e10 q hq, uI_k _ _ _ _ _ hq], fun q hq => by rw [e11 q hq, uI_k _ _ _ _ _ hq]⟩
    rw [rd_takeToken_0, hT.2.2.1, h5, if_neg (nI_ge (by omega) (by omega)), chk_nI (show k < 900 by omega) (by decide), nI_cl (show k < 2147483648 by omega), b3, nI_1]
    rw [r_nextToken_8, h6, see_in hT (by omega), Option.bind_some, Option.bind_some, nI_1]
    try dsimp only
    have e10 : (nI (b k) = 10) ↔ b k = 10 := nI_eq (b := 10) (by omega) (by decide)
    have e32 : (nI (b k) = 32) ↔ b k = 32 := nI_eq (b := 32) (by omega) (by decide)
    by_cases c1 : b k = 10
    · rw [if_pos ((sg_10 _ b1).mpr c1), if_pos (e10.mpr c1)]
      exact blank (Or.inl c1)
    · rw [if_neg (fun cc => c1 ((sg_10 _ b1).mp cc)), if_neg (fun cc => c1 (e10.mp cc))]
      by_cases c2 : b k = 32
      · rw [if_pos ((sg_32 _ b1).mpr c2), if_pos (e32.mpr c2)]
        exact blank (Or.inr c2)
      · rw [if_neg (fun cc => c2 ((sg_32 _ b1).mp cc)), if_neg (fun cc => c2 (e32.mp cc))]
        exact ⟨k, I, Iz, rfl, rfl, Nat.le_refl _, by omega, h5, h6, fun _ => ⟨c1, c2⟩, Gd.rf, Gz.rf, fun _ _ => rfl, fun _ _ => rfl⟩
/-- letters of a word -/
theorem letters_go : ∀ (j k f g : Nat) (I Iz : Nat → Nat → Int32), k + j = sz → j < f → j < g → Txt I x Iz z sz b → I (x + 2) 5 = nI k → Iz z 7 = nI k → ∃ a I1 Iz1, rd_takeToken_94 2000 x f I = some I1 ∧ r_nextToken_89 2000 z g Iz = some Iz1 ∧ k ≤ a ∧ a ≤ sz ∧ I1 (x + 2) 5 = nI a ∧ Iz1 z 7 = nI a ∧ (∀ i, k ≤ i → i < a → isLt (b i) = true) ∧ (a < sz → isLt (b a) = false) ∧ Gd I I1 x ∧ Gz Iz Iz1 z ∧ (∀ q, q ≠ 5 → I1 (x + 2) q = I (x + 2) q) ∧ (∀ q, q ≠ 7 → Iz1 z q = Iz z q) := by
  intro j
  induction j with
  | zero =>
    intro k f g I Iz hk hf hg hT h5 h6
    obtain ⟨f, rfl⟩ : ∃ f', f = f' + 1 := ⟨f - 1, by omega⟩
    obtain ⟨g, rfl⟩ : ∃ f', g = f' + 1 := ⟨g - 1, by omega⟩
    obtain rfl : k = sz := by omega
    have hs := hT.1
    refine ⟨k, I, Iz, ?_, ?_, Nat.le_refl _, Nat.le_refl _, h5, h6, fun i a b => by omega, fun cc => by omega, Gd.rf, Gz.rf, fun _ _ => rfl, fun _ _ => rfl⟩
    · rw [rd_takeToken_94, hT.2.2.1, h5, if_pos (nI_le (Nat.le_refl _) (by omega))]
    · rw [r_nextToken_89, h6, see_out hT (Nat.le_refl _) (by omega), Option.bind_some]
      try dsimp only
      rw [neg_lt, if_pos rfl]
  | succ j ih =>
    intro k f g I Iz hk hf hg hT h5 h6
    obtain ⟨f, rfl⟩ : ∃ f', f = f' + 1 := ⟨f - 1, by omega⟩
    obtain ⟨g, rfl⟩ : ∃ f', g = f' + 1 := ⟨g - 1, by omega⟩
    have hs := hT.1
    obtain ⟨b1, b2', b3⟩ := hT.2.1 k (by omega)
    rw [rd_takeToken_94, hT.2.2.1, h5, if_neg (nI_ge (by omega) (by omega)), chk_nI (show k < 900 by omega) (by decide), nI_cl (show k < 2147483648 by omega), b3, nI_1, sg_lt _ b1]
    rw [r_nextToken_89, h6, see_in hT (by omega), Option.bind_some, nI_1]
    try dsimp only
    rw [rb_lt _ b1]
    cases hb : isLt (b k) with
    | false =>
      rw [if_pos (show b2 false = 0 from rfl), if_pos (show b2 false = 0 from rfl)]
      exact ⟨k, I, Iz, rfl, rfl, Nat.le_refl _, by omega, h5, h6, fun i a b => by omega, fun _ => hb, Gd.rf, Gz.rf, fun _ _ => rfl, fun _ _ => rfl⟩
    | true =>
      rw [if_neg (show ¬ b2 true = 0 by decide), if_neg (show ¬ b2 true = 0 by decide)]
      have fd : Gd I (uI I (x + 2) 5 (nI (k + 1))) x := Gd.u (by omega)
      have fz : Gz Iz (uI Iz z 7 (nI (k + 1))) z := Gz.u (by omega)
      obtain ⟨a, I1, Iz1, e1, e2, e3, e4, e5, e6, e7, e8, e9, e10, e11, e12⟩ := ih (k + 1) f g _ _ (by omega) (by omega) (by omega) (hT.go fd fz) (uI_e _ _ _ _) (uI_e _ _ _ _)
      refine ⟨a, I1, Iz1, e1, e2, by omega, e4, e5, e6, fun i h1 h2 => ?_, e8, fd.tr e9, fz.tr e10, fun q hq => by rw [e11 q hq, uI_k _ _ _ _ _ hq], fun q hq => by rw [e12 q hq, uI_k _ _ _ _ _ hq]⟩
      by_cases ei : i = k
      · subst ei; exact hb
      · exact e7 i (by omega) h2
/-- digits of a number: the class passes over them, the reference reckons on the way -/
theorem digits_go {a : Nat} : ∀ (j k f g w : Nat) (I Iz : Nat → Nat → Int32), k + j = sz → j < f → j < g → a ≤ k → w < 10 ^ (if k - a < 3 then k - a else 3) → w = dval b a (if k - a < 3 then k - a else 3) → (∀ i, a ≤ i → i < k → isDg (b i) = true) → Txt I x Iz z sz b → Iz z 6 = nI a → I (x + 2) 5 = nI k → Iz z 7 = nI k → Iz z 10 = nI w → ∃ e w' I1 Iz1, rd_takeToken_168 2000 x f I = some I1 ∧ r_nextToken_146 2000 z g Iz = some Iz1 ∧ k ≤ e ∧ e ≤ sz ∧ I1 (x + 2) 5 = nI e ∧ Iz1 z 7 = nI e ∧ w' = dval b a (if e - a < 3 then e - a else 3) ∧ Iz1 z 10 = nI w' ∧ w' < 1000 ∧ (k < sz → isDg (b k) = true → k < e) ∧ Gd I I1 x ∧ Gz Iz Iz1 z ∧ (∀ q, q ≠ 5 → I1 (x + 2) q = I (x + 2) q) ∧ (∀ q, q ≠ 7 → q ≠ 10 → Iz1 z q = Iz z q) ∧ (∀ i, a ≤ i → i < e → isDg (b i) = true) := by
  have p3 : ∀ w d : Nat, w < 10 ^ (if d < 3 then d else 3) → w < 1000 := fun w d h => by
    have : (10 : Nat) ^ (if d < 3 then d else 3) ≤ 10 ^ 3 := Nat.pow_le_pow_right (by decide) (by split <;> omega)
    omega
  intro j
  induction j with
  | zero =>
    intro k f g w I Iz hk hf hg ha hw hv hdg hT h6 h5 h7 hn
    obtain ⟨f, rfl⟩ : ∃ f', f = f' + 1 := ⟨f - 1, by omega⟩
    obtain ⟨g, rfl⟩ : ∃ f', g = f' + 1 := ⟨g - 1, by omega⟩
    obtain rfl : k = sz := by omega
    have hs := hT.1
    refine ⟨k, w, I, Iz, ?_, ?_, Nat.le_refl _, Nat.le_refl _, h5, h7, hv, hn, p3 _ _ hw, fun cc => by omega, Gd.rf, Gz.rf, fun _ _ => rfl, fun _ _ _ => rfl, hdg⟩
    · rw [rd_takeToken_168, hT.2.2.1, h5, if_pos (nI_le (Nat.le_refl _) (by omega))]
    · rw [r_nextToken_146, h7, see_out hT (Nat.le_refl _) (by omega), Option.bind_some]
      try dsimp only
      rw [neg_dg, if_pos rfl]
  | succ j ih =>
    intro k f g w I Iz hk hf hg ha hw hv hdg hT h6 h5 h7 hn
    obtain ⟨f, rfl⟩ : ∃ f', f = f' + 1 := ⟨f - 1, by omega⟩
    obtain ⟨g, rfl⟩ : ∃ f', g = f' + 1 := ⟨g - 1, by omega⟩
    have hs := hT.1
    obtain ⟨b1, b2', b3⟩ := hT.2.1 k (by omega)
    rw [rd_takeToken_168, hT.2.2.1, h5, if_neg (nI_ge (by omega) (by omega)), chk_nI (show k < 900 by omega) (by decide), nI_cl (show k < 2147483648 by omega), b3, nI_1, sg_dg _ b1]
    rw [r_nextToken_146, h7, see_in hT (by omega), Option.bind_some, Option.bind_some, nI_1, h6, nI_SB ha]
    try dsimp only
    rw [rb_dg _ b1]
    cases hb : isDg (b k) with
    | false =>
      rw [if_pos (show b2 false = 0 from rfl), if_pos (show b2 false = 0 from rfl)]
      exact ⟨k, w, I, Iz, rfl, rfl, Nat.le_refl _, by omega, h5, h7, hv, hn, p3 _ _ hw, (fun _ cc => by cases cc), Gd.rf, Gz.rf, fun _ _ => rfl, fun _ _ _ => rfl, hdg⟩
    | true =>
      rw [if_neg (show ¬ b2 true = 0 by decide), if_neg (show ¬ b2 true = 0 by decide)]
      have hd : 48 ≤ b k ∧ b k ≤ 57 := by
        unfold isDg at hb
        rw [Bool.and_eq_true] at hb
        exact ⟨Nat.le_of_ble_eq_true hb.1, Nat.le_of_ble_eq_true hb.2⟩
      have hdg2 : ∀ i, a ≤ i → i < k + 1 → isDg (b i) = true := fun i h1 h2 => by
        by_cases ei : i = k
        · subst ei; exact hb
        · exact hdg i h1 (by omega)
      have fd : Gd I (uI I (x + 2) 5 (nI (k + 1))) x := Gd.u (by omega)
      by_cases c3 : 3 ≤ k - a
      · rw [if_pos (show (3 : Int32) ≤ nI (k - a) from nI_le (a := 3) c3 (by omega))]
        have fz : Gz Iz (uI Iz z 7 (nI (k + 1))) z := Gz.u (by omega)
        obtain ⟨e, w', I1, Iz1, e1, e2, e3, e4, e5, e6, e7, e8, e9, e10, e11, e12, e13, e14, e15⟩ := ih (k + 1) f g w _ _ (by omega) (by omega) (by omega) (by omega) (by rw [if_neg (by omega)] at hw ⊢; exact hw) (by rw [if_neg (by omega)] at hv ⊢; exact hv) hdg2 (hT.go fd fz) (by rw [uI_k _ _ _ _ _ (by decide)]; exact h6) (uI_e _ _ _ _) (uI_e _ _ _ _) (by rw [uI_k _ _ _ _ _ (by decide)]; exact hn)
        exact ⟨e, w', I1, Iz1, e1, e2, by omega, e4, e5, e6, e7, e8, e9, fun _ _ => by omega, fd.tr e11, fz.tr e12, fun q h1 => by rw [e13 q h1, uI_k _ _ _ _ _ h1], fun q h1 h2 => by rw [e14 q h1 h2, uI_k _ _ _ _ _ h1], e15⟩
      · rw [if_neg (show ¬ (3 : Int32) ≤ nI (k - a) from nI_ge (b := 3) (by omega) (by decide))]
        have w1 := p3 _ _ hw
        rw [hn, show (10 : Int32) * nI w = nI (10 * w) from pk_mul 10 w, nI_add, show nI (10 * w + b k) - 48 = nI (10 * w + b k - 48) from nI_SB (b := 48) (by omega)]
        rw [uI_k _ _ _ _ _ (show 7 ≠ 10 by decide), h7, nI_1]
        have fz : Gz Iz (uI (uI Iz z 10 (nI (10 * w + b k - 48))) z 7 (nI (k + 1))) z := (Gz.u (by omega)).tr (Gz.u (by omega))
        obtain ⟨e, w', I1, Iz1, e1, e2, e3, e4, e5, e6, e7, e8, e9, e10, e11, e12, e13, e14, e15⟩ := ih (k + 1) f g (10 * w + b k - 48) _ _ (by omega) (by omega) (by omega) (by omega) (by
            rw [if_pos (by omega)] at hw
            have : (10 : Nat) ^ (if k + 1 - a < 3 then k + 1 - a else 3) = 10 ^ (k - a) * 10 := by
              rw [← Nat.pow_succ]
              congr 1
              split <;> omega
            rw [this]
            omega) (by
            have e : (if k + 1 - a < 3 then k + 1 - a else 3) = (k - a) + 1 := by split <;> omega
            rw [if_pos (by omega)] at hv
            rw [e, hv]
            show 10 * dval b a (k - a) + b k - 48 = 10 * dval b a (k - a) + b (a + (k - a)) - 48
            rw [show a + (k - a) = k by omega]) hdg2 (hT.go fd fz) (by rw [uI_k _ _ _ _ _ (by decide), uI_k _ _ _ _ _ (by decide)]; exact h6) (uI_e _ _ _ _) (uI_e _ _ _ _) (by rw [uI_k _ _ _ _ _ (by decide), uI_e])
        exact ⟨e, w', I1, Iz1, e1, e2, by omega, e4, e5, e6, e7, e8, e9, fun _ _ => by omega, fd.tr e11, fz.tr e12, fun q h1 => by rw [e13 q h1, uI_k _ _ _ _ _ h1], fun q h1 h2 => by rw [e14 q h1 h2, uI_k _ _ _ _ _ h1, uI_k _ _ _ _ _ h2], e15⟩
/-- what the class makes of the digits that it passed over: of the first three at most -/
theorem told_go {a e m : Nat} (hT : Txt I x Iz z sz b) (h4 : I (x + 2) 4 = nI a) (h5 : I (x + 2) 5 = nI e) (hae : a ≤ e) (hes : e ≤ sz) (hm : m = if e - a < 3 then e - a else 3) (hd : ∀ i, a ≤ i → i < e → isDg (b i) = true) : ∀ (j i f : Nat), i + j = m → j < f → rd_numberTold_7 2000 I x f (nI (dval b a i)) (nI (a + i)) = some (nI (dval b a m), nI (a + m)) := by
  have hs := hT.1
  have hm1 : m ≤ 3 ∧ m ≤ e - a ∧ (m < 3 → m = e - a) := by rw [hm]; split <;> omega
  clear hm
  intro j
  induction j with
  | zero =>
    intro i f hi hf
    obtain ⟨f, rfl⟩ : ∃ f', f = f' + 1 := ⟨f - 1, by omega⟩
    obtain rfl : i = m := by omega
    rw [rd_numberTold_7, h5, h4, show nI a + 3 = nI (a + 3) from nI_add a 3]
    by_cases c : e ≤ a + i
    · rw [if_pos (nI_le c (by omega))]
    · rw [if_neg (nI_ge (by omega) (by omega)), if_pos (nI_le (by omega) (by omega))]
  | succ j ih =>
    intro i f hi hf
    obtain ⟨f, rfl⟩ : ∃ f', f = f' + 1 := ⟨f - 1, by omega⟩
    obtain ⟨b1, b2', b3⟩ := hT.2.1 (a + i) (by omega)
    have hb := hd (a + i) (by omega) (by omega)
    have hdd : 48 ≤ b (a + i) ∧ b (a + i) ≤ 57 := by
      unfold isDg at hb
      rw [Bool.and_eq_true] at hb
      exact ⟨Nat.le_of_ble_eq_true hb.1, Nat.le_of_ble_eq_true hb.2⟩
    rw [rd_numberTold_7, h5, h4, show nI a + 3 = nI (a + 3) from nI_add a 3, if_neg (nI_ge (by omega) (by omega)), if_neg (nI_ge (by omega) (by omega)), chk_nI (show a + i < 900 by omega) (by decide), nI_cl (show a + i < 2147483648 by omega), b3, sg_eq _ (by omega)]
    try dsimp only
    rw [show (10 : Int32) * nI (dval b a i) = nI (10 * dval b a i) from pk_mul 10 _, nI_add, show nI (10 * dval b a i + b (a + i)) - 48 = nI (10 * dval b a i + b (a + i) - 48) from nI_SB (b := 48) (by omega), nI_1]
    exact ih (i + 1) f (by omega) (by omega)
theorem told_is {a e w : Nat} (hT : Txt I x Iz z sz b) (h4 : I (x + 2) 4 = nI a) (h5 : I (x + 2) 5 = nI e) (hae : a ≤ e) (hes : e ≤ sz) (hw : w = dval b a (if e - a < 3 then e - a else 3)) (hd : ∀ i, a ≤ i → i < e → isDg (b i) = true) : rd_numberTold 2000 I x = some (nI w) := by
  have k1 := told_go hT h4 h5 hae hes rfl hd (if e - a < 3 then e - a else 3) 0 2000 (by omega) (by split <;> omega)
  have k1 : rd_numberTold_7 2000 I x 2000 0 (nI a) = _ := k1
  unfold rd_numberTold
  try dsimp only
  rw [h4, k1, Option.bind_some]
  try dsimp only
  rw [hw]
end
