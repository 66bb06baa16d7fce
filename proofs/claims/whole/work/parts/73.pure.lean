/-! waiting: all tellings, the rests, what was asked last -/
section
variable {T : Nat → Option (Nat × Nat)} {I : Nat → Nat → Int32} {J : Nat → Nat → Int64} {P : Nat → Nat → Option Nat} {x nn c : Nat} {Iz : Nat → Nat → Int32} {Jz : Nat → Nat → Int64} {z N n u tn : Nat} {LT LP : Row → Int32} {d na v e : Nat}
theorem tab_in (h : InvK T I J P x nn c Iz Jz z N n u tn LT LP v) (hN : N < 600) {p q t m a : Nat} {g5 : Int32} (hp : p < n) (hq : q < n) (hpq : p ≠ q) (hm : m ≤ 20) (ha : a ≤ m) : ∀ (j k f g : Nat) (I1 Iz1 : Nat → Nat → Int32), k + j = m + 1 → j < f → j < g → Wx I I1 x c → RS I1 (x + 120) n (mpair (Iz (z + 1)) p q) true → Kw Iz Iz1 z → (∀ a' b', a' ≤ m → b' ≤ m → (a' < a ∨ a' = a ∧ b' < k) → Lay I1 x Iz1 z (21 * a' + b')) →
    ∃ I2 Iz2, wa_find_64 2000 T P x c (x + 12) (nI p) (nI q) (nI t) (nI m) (nI a) f (nI k) I1 = some (nI (m + 1), I2) ∧ r_laysRests_17 2000 z (nI p) (nI q) (nI t) (nI m) g5 (nI a) g (nI k) Iz1 = some (nI (m + 1), Iz2) ∧ Wx I I2 x c ∧ RS I2 (x + 120) n (mpair (Iz (z + 1)) p q) true ∧ Kw Iz Iz2 z ∧ ∀ a' b', a' ≤ m → b' ≤ m → a' < a + 1 → Lay I2 x Iz2 z (21 * a' + b') := by
  intro j
  induction j with
  | zero =>
    intro k f g I1 Iz1 hk hf hg hx hR hK hL
    obtain ⟨f, rfl⟩ : ∃ f', f = f' + 1 := ⟨f - 1, by omega⟩
    obtain ⟨g, rfl⟩ : ∃ f', g = f' + 1 := ⟨g - 1, by omega⟩
    obtain rfl : k = m + 1 := by omega
    have c1 : nI m < nI (m + 1) := nI_lt (by omega) (by omega)
    refine ⟨I1, Iz1, ?_, ?_, hx, hR, hK, fun a' b' h1 h2 h3 => hL a' b' h1 h2 (by omega)⟩
    · rw [wa_find_64, if_pos c1]
    · rw [r_laysRests_17, if_pos c1]
  | succ j ih =>
    intro k f g I1 Iz1 hk hf hg hx hR hK hL
    obtain ⟨f, rfl⟩ : ∃ f', f = f' + 1 := ⟨f - 1, by omega⟩
    obtain ⟨g, rfl⟩ : ∃ f', g = f' + 1 := ⟨g - 1, by omega⟩
    have c1 : ¬ nI m < nI k := nI_nlt (by omega) (by omega)
    have c2 : ¬ (21 : Int32) ≤ nI k := nI_ge (b := 21) (by omega) (by decide)
    obtain ⟨I2, Iz2, w1, w2, hx2, hR2, hK2, l1, l2⟩ := wait_is (t := t) h hN hp hq hpq (show a ≤ 20 by omega) (show k ≤ 20 by omega) hx hR hK
    rw [wa_find_64, if_neg c1, if_neg c2, w1, Option.bind_some, r_laysRests_17, if_neg c1, w2, Option.bind_some, nI_1]
    exact ih (k + 1) f g I2 Iz2 (by omega) (by omega) (by omega) hx2 hR2 hK2 (fun a' b' h1 h2 h3 => by
      by_cases e1 : 21 * a' + b' = 21 * a + k
      · rw [e1]; exact l1
      · refine l2 _ e1 (hL a' b' h1 h2 ?_)
        omega)
theorem tab_out (h : InvK T I J P x nn c Iz Jz z N n u tn LT LP v) (hN : N < 600) {p q t m : Nat} {g5 : Int32} (hp : p < n) (hq : q < n) (hpq : p ≠ q) (hm : m ≤ 20) : ∀ (j k f g : Nat) (I1 Iz1 : Nat → Nat → Int32), k + j = m + 1 → j < f → j < g → Wx I I1 x c → RS I1 (x + 120) n (mpair (Iz (z + 1)) p q) true → Kw Iz Iz1 z → (∀ a' b', a' ≤ m → b' ≤ m → a' < k → Lay I1 x Iz1 z (21 * a' + b')) →
    ∃ I2 Iz2, wa_find_47 2000 T P x c (x + 12) (nI p) (nI q) (nI t) (nI m) f (nI k) I1 = some (nI (m + 1), I2) ∧ r_laysRests_7 2000 z (nI p) (nI q) (nI t) (nI m) g5 g (nI k) Iz1 = some (nI (m + 1), Iz2) ∧ Wx I I2 x c ∧ Kw Iz Iz2 z ∧ ∀ a' b', a' ≤ m → b' ≤ m → Lay I2 x Iz2 z (21 * a' + b') := by
  intro j
  induction j with
  | zero =>
    intro k f g I1 Iz1 hk hf hg hx hR hK hL
    obtain ⟨f, rfl⟩ : ∃ f', f = f' + 1 := ⟨f - 1, by omega⟩
    obtain ⟨g, rfl⟩ : ∃ f', g = f' + 1 := ⟨g - 1, by omega⟩
    obtain rfl : k = m + 1 := by omega
    have c1 : nI m < nI (m + 1) := nI_lt (by omega) (by omega)
    refine ⟨I1, Iz1, ?_, ?_, hx, hK, fun a' b' h1 h2 => hL a' b' h1 h2 (by omega)⟩
    · rw [wa_find_47, if_pos c1]
    · rw [r_laysRests_7, if_pos c1]
  | succ j ih =>
    intro k f g I1 Iz1 hk hf hg hx hR hK hL
    obtain ⟨f, rfl⟩ : ∃ f', f = f' + 1 := ⟨f - 1, by omega⟩
    obtain ⟨g, rfl⟩ : ∃ f', g = f' + 1 := ⟨g - 1, by omega⟩
    have c1 : ¬ nI m < nI k := nI_nlt (by omega) (by omega)
    have c2 : ¬ (21 : Int32) ≤ nI k := nI_ge (b := 21) (by omega) (by decide)
    obtain ⟨I2, Iz2, w1, w2, hx2, hR2, hK2, l2⟩ := tab_in (t := t) (g5 := g5) h hN hp hq hpq hm (show k ≤ m by omega) (m + 1) 0 2000 2000 I1 Iz1 (by omega) (by omega) (by omega) hx hR hK (fun a' b' h1 h2 h3 => hL a' b' h1 h2 (by omega))
    have w1 : wa_find_64 2000 T P x c (x + 12) (nI p) (nI q) (nI t) (nI m) (nI k) 2000 0 I1 = _ := w1
    have w2 : r_laysRests_17 2000 z (nI p) (nI q) (nI t) (nI m) g5 (nI k) 2000 0 Iz1 = _ := w2
    rw [wa_find_47, if_neg c1, if_neg c2, w1, Option.bind_some, r_laysRests_7, if_neg c1, w2, Option.bind_some, nI_1]
    exact ih (k + 1) f g I2 Iz2 (by omega) (by omega) (by omega) hx2 hR2 hK2 l2
theorem gain_go {m a b : Nat} (hm : m ≤ 20) (ha : a ≤ m) (hb : b ≤ m) (hL : ∀ a' b', a' ≤ m → b' ≤ m → Lay I x Iz z (21 * a' + b')) : ∀ (j k f g : Nat), k + j = m + 1 → j < f → j < g → (wa_neitherGains_11 2000 I x (nI a) (nI b) (nI m) (nI (21 * a + b)) f (nI k) = some (.inl 0) ∧ r_isRest_3 2000 Iz z (nI a) (nI b) (nI m) g (nI k) = some (.inl 0)) ∨ (wa_neitherGains_11 2000 I x (nI a) (nI b) (nI m) (nI (21 * a + b)) f (nI k) = some (.inr (nI (m + 1))) ∧ r_isRest_3 2000 Iz z (nI a) (nI b) (nI m) g (nI k) = some (.inr (nI (m + 1)))) := by
  intro j
  induction j with
  | zero =>
    intro k f g hk hf hg
    obtain ⟨f, rfl⟩ : ∃ f', f = f' + 1 := ⟨f - 1, by omega⟩
    obtain ⟨g, rfl⟩ : ∃ f', g = f' + 1 := ⟨g - 1, by omega⟩
    obtain rfl : k = m + 1 := by omega
    have c1 : nI m < nI (m + 1) := nI_lt (by omega) (by omega)
    rw [wa_neitherGains_11, if_pos c1, r_isRest_3, if_pos c1]
    exact Or.inr ⟨rfl, rfl⟩
  | succ j ih =>
    intro k f g hk hf hg
    obtain ⟨f, rfl⟩ : ∃ f', f = f' + 1 := ⟨f - 1, by omega⟩
    obtain ⟨g, rfl⟩ : ∃ f', g = f' + 1 := ⟨g - 1, by omega⟩
    have c1 : ¬ nI m < nI k := nI_nlt (by omega) (by omega)
    have c2 : ¬ (21 : Int32) ≤ nI k := nI_ge (b := 21) (by omega) (by decide)
    have l0 := hL a b ha hb
    have l1 := hL k b (by omega) hb
    have l2 := hL a k ha (by omega)
    rw [wa_neitherGains_11, if_neg c1, if_neg c2, r_isRest_3, if_neg c1, show nI k * 21 = nI (k * 21) from pk_mul k 21, show nI a * 21 = nI (a * 21) from pk_mul a 21, show (21 : Int32) * nI k = nI (21 * k) from pk_mul 21 k, show (21 : Int32) * nI a = nI (21 * a) from pk_mul 21 a, nI_add, nI_add, nI_add, nI_add, nI_add, show k * 21 + b = 21 * k + b by omega, show a * 21 + k = 21 * a + k by omega, chk_nI (show 21 * k + b < 441 by omega) (by decide), chk_nI (show 21 * a + b < 441 by omega) (by decide), chk_nI (show 21 * a + k < 441 by omega) (by decide), chk_nI (show 21 * k + b < 441 by omega) (by decide), chk_nI (show 21 * a + b < 441 by omega) (by decide), chk_nI (show 21 * a + k < 441 by omega) (by decide), nI_cl (show 21 * k + b < 2147483648 by omega), nI_cl (show 21 * a + b < 2147483648 by omega), nI_cl (show 21 * a + k < 2147483648 by omega), l0.1, l0.2, l1.1, l2.2, nI_1]
    by_cases k1 : Iz (z + 15) (21 * a + b) < Iz (z + 15) (21 * k + b)
    · rw [if_pos k1, if_pos k1]
      exact Or.inl ⟨rfl, rfl⟩
    · rw [if_neg k1, if_neg k1]
      by_cases k2 : Iz (z + 16) (21 * a + k) ≤ Iz (z + 16) (21 * a + b)
      · rw [if_pos k2, if_pos k2]
        exact ih (k + 1) f g (by omega) (by omega) (by omega)
      · rw [if_neg k2, if_neg k2]
        exact Or.inl ⟨rfl, rfl⟩
theorem gain_is {m a b : Nat} (hm : m ≤ 20) (ha : a ≤ m) (hb : b ≤ m) (hL : ∀ a' b', a' ≤ m → b' ≤ m → Lay I x Iz z (21 * a' + b')) : ∃ r : Int32, wa_neitherGains 2000 I x (nI a) (nI b) (nI m) = some r ∧ r_isRest 2000 Iz z (nI a) (nI b) (nI m) = some r := by
  unfold wa_neitherGains r_isRest
  try dsimp only
  rw [show nI a * 21 = nI (a * 21) from pk_mul a 21, nI_add, show a * 21 + b = 21 * a + b by omega]
  rcases gain_go hm ha hb hL (m + 1) 0 2000 2000 (by omega) (by omega) (by omega) with ⟨h1, h2⟩ | ⟨h1, h2⟩
  · have h1 : wa_neitherGains_11 2000 I x (nI a) (nI b) (nI m) (nI (21 * a + b)) 2000 0 = _ := h1
    have h2 : r_isRest_3 2000 Iz z (nI a) (nI b) (nI m) 2000 0 = _ := h2
    rw [h1, h2]
    exact ⟨0, rfl, rfl⟩
  · have h1 : wa_neitherGains_11 2000 I x (nI a) (nI b) (nI m) (nI (21 * a + b)) 2000 0 = _ := h1
    have h2 : r_isRest_3 2000 Iz z (nI a) (nI b) (nI m) 2000 0 = _ := h2
    rw [h1, h2]
    exact ⟨1, rfl, rfl⟩
/-- the rests of a row: those that the class writes, and how the reference comes by its k-th -/
theorem rst_in {m a b : Nat} {p q t : Int32} (hm : m ≤ 20) (ha : a ≤ m) : ∀ (j k f g s : Nat) (I1 : Nat → Nat → Int32), k + j = m + 1 → j < f → j < g → s ≤ 21 * a + k → I1 (x + 114) 2 = nI s → (∀ a' b', a' ≤ m → b' ≤ m → Lay I1 x Iz z (21 * a' + b')) →
    ∃ I2 s', wa_find_129 2000 x c b p q t (nI m) (nI a) f (nI k) I1 = some (nI (m + 1), I2) ∧ s ≤ s' ∧ s' ≤ 21 * a + (m + 1) ∧ I2 (x + 114) 2 = nI s' ∧ (∀ i, i < s → I2 (x + 117) i = I1 (x + 117) i) ∧ (∀ r, r ≠ x + 114 → r ≠ x + 117 → I2 r = I1 r) ∧ ∀ kk : Int32, (∃ i, s ≤ i ∧ i < s' ∧ kk = nI i ∧ r_laysRests_63 2000 Iz z p q t (nI m) kk (nI a) g (nI s) (nI k) = some (.inl (I2 (x + 117) i, Iz))) ∨ ((∀ i, s ≤ i → i < s' → kk ≠ nI i) ∧ r_laysRests_63 2000 Iz z p q t (nI m) kk (nI a) g (nI s) (nI k) = some (.inr (nI s', nI (m + 1)))) := by
  intro j
  induction j with
  | zero =>
    intro k f g s I1 hk hf hg hs h2 hL
    obtain ⟨f, rfl⟩ : ∃ f', f = f' + 1 := ⟨f - 1, by omega⟩
    obtain ⟨g, rfl⟩ : ∃ f', g = f' + 1 := ⟨g - 1, by omega⟩
    obtain rfl : k = m + 1 := by omega
    have c1 : nI m < nI (m + 1) := nI_lt (by omega) (by omega)
    refine ⟨I1, s, ?_, Nat.le_refl _, hs, h2, fun _ _ => rfl, fun _ _ _ => rfl, fun kk => Or.inr ⟨fun i h1 h2 => by omega, ?_⟩⟩
    · rw [wa_find_129, if_pos c1]
    · rw [r_laysRests_63, if_pos c1]
  | succ j ih =>
    intro k f g s I1 hk hf hg hs h2 hL
    obtain ⟨f, rfl⟩ : ∃ f', f = f' + 1 := ⟨f - 1, by omega⟩
    obtain ⟨g, rfl⟩ : ∃ f', g = f' + 1 := ⟨g - 1, by omega⟩
    have c1 : ¬ nI m < nI k := nI_nlt (by omega) (by omega)
    have c2 : ¬ (21 : Int32) ≤ nI k := nI_ge (b := 21) (by omega) (by decide)
    obtain ⟨r, r1, r2⟩ := gain_is hm ha (show k ≤ m by omega) hL
    rw [wa_find_129, if_neg c1, if_neg c2, r1, Option.bind_some]
    have ex : ∀ kk : Int32, r_laysRests_63 2000 Iz z p q t (nI m) kk (nI a) (g + 1) (nI s) (nI k) = if r = 0 then (r_laysRests_63 2000 Iz z p q t (nI m) kk (nI a) g (nI s) (nI k + 1)) else (if nI s = kk then (some (.inl (((100 * nI a) + nI k), Iz))) else (r_laysRests_63 2000 Iz z p q t (nI m) kk (nI a) g (nI s + 1) (nI k + 1))) := fun kk => by
      rw [r_laysRests_63, if_neg c1, r2, Option.bind_some]
    try dsimp only
    by_cases hr : r = 0
    · rw [if_pos hr, nI_1]
      obtain ⟨I2, s', e1, e2, e3, e4, e5, e6, e7⟩ := ih (k + 1) f g s I1 (by omega) (by omega) (by omega) (by omega) h2 hL
      refine ⟨I2, s', e1, e2, e3, e4, e5, e6, fun kk => ?_⟩
      rw [ex kk, if_pos hr, nI_1]
      exact e7 kk
    · rw [if_neg hr, h2, chk_nI (show s < 441 by omega) (by decide), nI_cl (show s < 2147483648 by omega), uI_row _ _ _ _ _ (show x + 114 ≠ x + 117 by omega), h2, nI_1, nI_1]
      generalize hI3 : uI (uI I1 (x + 117) s (100 * nI a + nI k)) (x + 114) 2 (nI (s + 1)) = I3
      have v3 : I3 (x + 117) s = 100 * nI a + nI k := by rw [← hI3, uI_row _ _ _ _ _ (by omega), uI_e]
      have o3 : ∀ r, r ≠ x + 114 → r ≠ x + 117 → I3 r = I1 r := fun r a1 a2 => by rw [← hI3, uI_row _ _ _ _ _ a1, uI_row _ _ _ _ _ a2]
      obtain ⟨I2, s', e1, e2, e3, e4, e5, e6, e7⟩ := ih (k + 1) f g (s + 1) I3 (by omega) (by omega) (by omega) (by omega) (by rw [← hI3, uI_e]) (fun a' b' h1 h2 => by
        unfold Lay
        rw [o3 _ (by omega) (by omega), o3 _ (by omega) (by omega)]
        exact hL a' b' h1 h2)
      refine ⟨I2, s', e1, by omega, e3, e4, fun i hi => ?_, fun r a1 a2 => by rw [e6 r a1 a2, o3 r a1 a2], fun kk => ?_⟩
      · rw [e5 i (by omega), ← hI3, uI_row _ _ _ _ _ (by omega), uI_k _ _ _ _ _ (by omega)]
      · rw [ex kk, if_neg hr]
        by_cases ek : nI s = kk
        · rw [if_pos ek]
          refine Or.inl ⟨s, Nat.le_refl _, by omega, ek.symm, ?_⟩
          rw [e5 s (by omega), v3]
        · rw [if_neg ek, nI_1, nI_1]
          rcases e7 kk with ⟨i, b1, b2, b3, b4⟩ | ⟨b1, b2⟩
          · exact Or.inl ⟨i, by omega, b2, b3, b4⟩
          · refine Or.inr ⟨fun i h1 h2 => ?_, b2⟩
            by_cases ei : i = s
            · subst ei; exact fun cc => ek cc.symm
            · exact b1 i (by omega) h2
theorem rst_out {m b : Nat} {p q t : Int32} (hm : m ≤ 20) : ∀ (j k f g s : Nat) (I1 : Nat → Nat → Int32), k + j = m + 1 → j < f → j < g → s ≤ 21 * k → I1 (x + 114) 2 = nI s → (∀ a' b', a' ≤ m → b' ≤ m → Lay I1 x Iz z (21 * a' + b')) →
    ∃ I2 s', wa_find_112 2000 x c b p q t (nI m) f (nI k) I1 = some (nI (m + 1), I2) ∧ s ≤ s' ∧ s' ≤ 21 * (m + 1) ∧ I2 (x + 114) 2 = nI s' ∧ (∀ i, i < s → I2 (x + 117) i = I1 (x + 117) i) ∧ (∀ r, r ≠ x + 114 → r ≠ x + 117 → I2 r = I1 r) ∧ ∀ kk : Int32, (∃ i, s ≤ i ∧ i < s' ∧ kk = nI i ∧ r_laysRests_53 2000 Iz z p q t (nI m) kk g (nI s) (nI k) = some (.inl (I2 (x + 117) i, Iz))) ∨ ((∀ i, s ≤ i → i < s' → kk ≠ nI i) ∧ r_laysRests_53 2000 Iz z p q t (nI m) kk g (nI s) (nI k) = some (.inr (nI s', nI (m + 1)))) := by
  intro j
  induction j with
  | zero =>
    intro k f g s I1 hk hf hg hs h2 hL
    obtain ⟨f, rfl⟩ : ∃ f', f = f' + 1 := ⟨f - 1, by omega⟩
    obtain ⟨g, rfl⟩ : ∃ f', g = f' + 1 := ⟨g - 1, by omega⟩
    obtain rfl : k = m + 1 := by omega
    have c1 : nI m < nI (m + 1) := nI_lt (by omega) (by omega)
    refine ⟨I1, s, ?_, Nat.le_refl _, hs, h2, fun _ _ => rfl, fun _ _ _ => rfl, fun kk => Or.inr ⟨fun i h1 h2 => by omega, ?_⟩⟩
    · rw [wa_find_112, if_pos c1]
    · rw [r_laysRests_53, if_pos c1]
  | succ j ih =>
    intro k f g s I1 hk hf hg hs h2 hL
    obtain ⟨f, rfl⟩ : ∃ f', f = f' + 1 := ⟨f - 1, by omega⟩
    obtain ⟨g, rfl⟩ : ∃ f', g = f' + 1 := ⟨g - 1, by omega⟩
    have c1 : ¬ nI m < nI k := nI_nlt (by omega) (by omega)
    have c2 : ¬ (21 : Int32) ≤ nI k := nI_ge (b := 21) (by omega) (by decide)
    obtain ⟨I3, s3, e1, e2, e3, e4, e5, e6, e7⟩ := rst_in (c := c) (b := b) (p := p) (q := q) (t := t) hm (show k ≤ m by omega) (m + 1) 0 2000 2000 s I1 (by omega) (by omega) (by omega) (by omega) h2 hL
    have e1 : wa_find_129 2000 x c b p q t (nI m) (nI k) 2000 0 I1 = _ := e1
    rw [wa_find_112, if_neg c1, if_neg c2, e1, Option.bind_some, nI_1]
    obtain ⟨I2, s', f1, f2, f3, f4, f5, f6, f7⟩ := ih (k + 1) f g s3 I3 (by omega) (by omega) (by omega) (by omega) e4 (fun a' b' h1 h2 => by
        unfold Lay
        rw [e6 _ (by omega) (by omega), e6 _ (by omega) (by omega)]
        exact hL a' b' h1 h2)
    refine ⟨I2, s', f1, by omega, f3, f4, fun i hi => by rw [f5 i (by omega), e5 i hi], fun r a1 a2 => by rw [f6 r a1 a2, e6 r a1 a2], fun kk => ?_⟩
    rw [r_laysRests_53, if_neg c1]
    rcases e7 kk with ⟨i, b1, b2, b3, b4⟩ | ⟨b1, b2⟩
    · have b4 : r_laysRests_63 2000 Iz z p q t (nI m) kk (nI k) 2000 (nI s) 0 = _ := b4
      rw [b4, Option.bind_some]
      refine Or.inl ⟨i, b1, by omega, b3, ?_⟩
      rw [f5 i b2]
    · have b2 : r_laysRests_63 2000 Iz z p q t (nI m) kk (nI k) 2000 (nI s) 0 = _ := b2
      rw [b2, Option.bind_some]
      try dsimp only
      rw [nI_1]
      rcases f7 kk with ⟨i, g1, g2, g3, g4⟩ | ⟨g1, g2⟩
      · exact Or.inl ⟨i, by omega, g2, g3, g4⟩
      · refine Or.inr ⟨fun i h1 h2 => ?_, g2⟩
        by_cases ei : i < s3
        · exact b1 i h1 ei
        · exact g1 i (by omega) h2
end
