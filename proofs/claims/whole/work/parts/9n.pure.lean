/-! what a new court leaves as it was; a State set in order -/
def Gw (x nn lo : Nat) (T T' : Nat → Option (Nat × Nat)) (I I' : Nat → Nat → Int32) (P P' : Nat → Nat → Option Nat) : Prop := (∀ q, q < nn → T' q = T q) ∧ (∀ q, q < nn → q ≠ x → q ≠ x + 2 → q ≠ x + 3 → ¬ (x + 12 ≤ q ∧ q < lo) → I' q = I q) ∧ ∀ q, q < nn → q ≠ x → q ≠ x + 2 → P' q = P q
theorem CLw.gw {x nn lo w : Nat} {T T' : Nat → Option (Nat × Nat)} {I I' : Nat → Nat → Int32} {P P' : Nat → Nat → Option Nat} {φ : Row → Int32} (g : Gw x nn lo T T' I I' P P') (hl : lo ≤ x + 20) (hw : x + 224 ≤ w ∧ w + 2 ≤ nn) (h : CLw T I w φ) : CLw T' I' w φ := h.mv (g.1 _ (by omega)) (g.2.1 _ (by omega) (by omega) (by omega) (by omega) (by omega))
theorem Cst.grow {T T' : Nat → Option (Nat × Nat)} {I I' : Nat → Nat → Int32} {P P' : Nat → Nat → Option Nat} {x nn lo a k : Nat} {A : Row} {n u tn : Nat} {LT LP : Row → Int32} {N : Nat} (hk : Cst T I P a k A n u tn LT LP N) (hC : Cok P x nn k) (hnn : x + 224 ≤ nn) (hl : lo ≤ x + 20) (g : Gw x nn lo T T' I I' P P') (ha : x + 4 ≤ a ∧ lo ≤ a ∧ a + 7 ≤ x + 224) : Cst T' I' P' a k A n u tn LT LP N := by
  obtain ⟨⟨⟨h1, h1'⟩, h8, h9⟩, h2, h3, h4, ⟨c1, c2, c3, c4, c5, c6, c7⟩, h6, h7, h10⟩ := hk
  obtain ⟨k1, k2, k3⟩ := hC
  have pk : P' k = P k := g.2.2 k (by omega) (by omega) (by omega)
  have lw : ∀ w, P k 8 = some w ∨ P k 9 = some w → isLw T P w → isLw T' P' w := fun w hw hl => by
    obtain ⟨w1, w2⟩ := k3 w hw
    obtain ⟨l1, l2, l3⟩ := hl
    have e1 := g.1 (w + 1) (by omega)
    refine ⟨by rw [g.1 w (by omega)]; exact l1, ?_, by rw [g.2.2 w (by omega) (by omega) (by omega)]; exact l3⟩
    have e2 : lenT T' (w + 1) = lenT T (w + 1) := by unfold lenT; rw [e1]
    rw [e1, e2]
    exact l2
  have len : ∀ j, j < 8 → lenT T' (k + j) = lenT T (k + j) := fun j hj => by unfold lenT; rw [g.1 (k + j) (by omega)]
  refine ⟨⟨⟨fun j q e => ?_, fun j i r e => ?_⟩, fun w e => ?_, fun w e => ?_⟩, h2, h3, h4, ⟨?_, ?_, ?_, c4, c5, by rw [len 5 (by omega)]; exact c6, by rw [len 6 (by omega)]; exact c7⟩, h6.same (fun q a1 a2 => g.2.1 q (by omega) (by omega) (by omega) (by omega) (by omega)), h7, h10⟩
  · have hj : j < 8 := by
      by_cases hh : j < 8
      · exact hh
      · rw [shC_n j (by omega)] at e; cases e
    rw [g.1 (k + j) (by omega)]
    exact h1 j q e
  · obtain ⟨rfl, hi⟩ := rfC_n j i r e
    show P' k i = some (k + r)
    rw [pk]
    exact h1' 0 i r e
  · rw [pk] at e
    exact lw w (Or.inl e) (h8 w e)
  · rw [pk] at e
    exact lw w (Or.inr e) (h9 w e)
  · obtain ⟨d0, d1, d2, d3, d4, d5, d6⟩ := c1
    have e : ∀ q, k ≤ q → q ≤ k + 4 → I' q = I q := fun q a1 a2 => g.2.1 q (by omega) (by omega) (by omega) (by omega) (by omega)
    have e0 := e k (by omega) (by omega)
    exact ⟨by rw [e0]; exact d0, by rw [e0]; exact d1, by rw [e0]; exact d2, by rw [e0]; exact d3, fun p hp => by rw [e (k + 1) (by omega) (by omega), e (k + 2) (by omega) (by omega)]; exact d4 p hp, fun t ht => by rw [e (k + 3) (by omega) (by omega)]; exact d5 t ht, fun q hq => by rw [e (k + 4) (by omega) (by omega)]; exact d6 q hq⟩
  · rcases c2 with ⟨e1, e2⟩ | ⟨w, φ, e1, e2, e3⟩
    · exact Or.inl ⟨by rw [pk]; exact e1, e2⟩
    · exact Or.inr ⟨w, φ, by rw [pk]; exact e1, e2.gw g hl (k3 w (Or.inl e1)), e3⟩
  · rcases c3 with ⟨e1, e2⟩ | ⟨w, φ, e1, e2, e3⟩
    · exact Or.inl ⟨by rw [pk]; exact e1, e2⟩
    · exact Or.inr ⟨w, φ, by rw [pk]; exact e1, e2.gw g hl (k3 w (Or.inr e1)), e3⟩
theorem order_go {a c : Nat} : ∀ (j k f : Nat) (I : Nat → Nat → Int32), k + j = 6 → j < f → (∀ p, p < k → I (a + 5) p = nI p ∧ I (a + 6) p = nI p) → ∃ I1, s_standInOrder_10 2000 a c f (nI k) I = some (nI 6, I1) ∧ (∀ p, p < 6 → I1 (a + 5) p = nI p ∧ I1 (a + 6) p = nI p) ∧ ∀ q, q ≠ a + 5 → q ≠ a + 6 → I1 q = I q := by
  intro j
  induction j with
  | zero =>
    intro k f I hk hf h
    obtain ⟨f, rfl⟩ : ∃ f', f = f' + 1 := ⟨f - 1, by omega⟩
    obtain rfl : k = 6 := by omega
    rw [s_standInOrder_10, if_pos (by decide)]
    exact ⟨I, rfl, h, fun _ _ _ => rfl⟩
  | succ j ih =>
    intro k f I hk hf h
    obtain ⟨f, rfl⟩ : ∃ f', f = f' + 1 := ⟨f - 1, by omega⟩
    rw [s_standInOrder_10, if_neg (show ¬ (6 : Int32) ≤ nI k from nI_ge (b := 6) (by omega) (by decide)), chk_nI (by omega) (by decide), nI_cl (by omega), nI_1]
    obtain ⟨I1, e1, e2, e3⟩ := ih (k + 1) f (uI (uI I (a + 5) k (nI k)) (a + 6) k (nI k)) (by omega) (by omega) (fun p hp => by
      rw [uI_row _ _ _ _ _ (show a + 5 ≠ a + 6 by omega)]
      by_cases c : p = k
      · subst c
        exact ⟨uI_e _ _ _ _, uI_e _ _ _ _⟩
      · rw [uI_k _ _ _ _ _ c, uI_k _ _ _ _ _ c, uI_row _ _ _ _ _ (show a + 6 ≠ a + 5 by omega)]
        exact h p (by omega))
    exact ⟨I1, e1, e2, fun q h1 h2 => by rw [e3 q h1 h2, uI_row _ _ _ _ _ h2, uI_row _ _ _ _ _ h1]⟩
theorem s_again2 {I : Nat → Nat → Int32} {a c n : Nat} {A : Row} (hn : n ≤ 6) (r0 : I a 0 = nI n) (r4 : ∀ p, p < n → I (a + 5) p = A (35 + p) ∧ I (a + 6) (spo A p) = nI p) (hc : ∀ p, p < 6 → I (c + 1) p = A (10 + p)) (hac : a + 7 ≤ c ∨ c + 8 ≤ a) : ∃ I1, s_standAgain 2000 I a c = some I1 ∧ RS I1 a n (meve A n) true ∧ ∀ q, ¬ (a ≤ q ∧ q ≤ a + 6) → I1 q = I q := by
  unfold s_standAgain
  try dsimp only
  rw [r0, full_tab n (by omega)]
  obtain ⟨I1, e1, e2, e3, e4⟩ := s_again_go hn hac n 0 2000 (uI (uI (uI I a 1 (nI (2 ^ n - 1))) a 2 0) a 3 0) (by omega) (by omega) (by simp (disch := omega) only [uI_k]; exact r0)
  have e1 : s_standAgain_24 2000 a c 2000 0 _ = _ := e1
  rw [e1, Option.bind_some]
  refine ⟨I1, rfl, ⟨?_, ?_, ?_, ?_, fun p hp => ?_⟩, fun q hq => ?_⟩
  · rw [e4 a (by omega)]
    simp (disch := omega) only [uI_k]
    exact r0
  · rw [e4 a (by omega)]
    simp (disch := omega) only [uI_k, uI_e]
    rfl
  · rw [e4 a (by omega)]
    simp (disch := omega) only [uI_k, uI_e]
    rfl
  · rw [e4 a (by omega)]
    simp (disch := omega) only [uI_k, uI_e]
    rfl
  · obtain ⟨x5, x6⟩ := r4 p hp
    obtain ⟨g1, g2, g3, g4⟩ := e2 p (Nat.zero_le _) hp
    rw [spo_out (A := A) (p := p) (meve_out (by unfold inst; omega)), meve_out (k := 35 + p) (by unfold inst; omega), meve_41 (by omega), meve_z (k := 47 + p) (by omega) (by omega), meve_z (k := 59 + p) (by omega) (by omega), meve_z (k := 53 + p) (by omega) (by omega), g1, g2, g3, g4, e4 (a + 5) (by omega), e4 (a + 6) (by omega)]
    simp (disch := omega) only [uI_o]
    exact ⟨hc p (by omega), (fun _ => by trivial), by trivial, by trivial, x5, x6⟩
  · rw [e4 q (by omega)]
    simp (disch := omega) only [uI_row]
/-- the laws of a draft -/
theorem LawD.cr {T : Nat → Option (Nat × Nat)} {I : Nat → Nat → Int32} {P : Nat → Nat → Option Nat} {c nn n : Nat} {A B : Row} (h0 : LawD T I P c nn A 0 n) (h1 : LawD T I P c nn A 1 n) (e : ∀ k, k < 10 ∨ (397 ≤ k ∧ k < 1297) → B k = A k) : ∃ LT LP, RT B LT ∧ RP B LP ∧ CT T I P c LT ∧ CP T I P c LP ∧ Ag LT ∧ Ag LP := by
  have rl : ∀ {g : Nat} {φ : Row → Int32}, RLn A g φ n → RLw B g φ := fun ⟨fr, cs, ⟨s1, s2, s3, s4, s5⟩, h6, h7⟩ => ⟨fr, cs, ⟨s1, s2, by rw [e _ (by omega)]; exact s3, by rw [e _ (by omega)]; exact s4, fun i hi => by rw [e _ (by omega)]; exact s5 i hi⟩, h7⟩
  have k1 : Ag (fun _ => 1) := fun _ _ _ => rfl
  have T0 : ∃ LT, RT B LT ∧ CT T I P c LT ∧ Ag LT := by
    rcases h0 with ⟨a1, a2⟩ | ⟨a1, w, φ, a2, a3, a4, a5⟩
    · exact ⟨fun _ => 1, Or.inl ⟨by rw [e 4 (by omega)]; exact a1, rfl⟩, Or.inl ⟨a2, rfl⟩, k1⟩
    · exact ⟨fun f => clT (φ f), Or.inr ⟨by rw [e 4 (by omega)]; exact a1, φ, rl a5, rfl⟩, Or.inr ⟨w, φ, a2, a4, rfl⟩, fun f f' hf => by show clT (φ f) = clT (φ f'); rw [(rl a5).ag f f' hf]⟩
  have P0 : ∃ LP, RP B LP ∧ CP T I P c LP ∧ Ag LP := by
    rcases h1 with ⟨a1, a2⟩ | ⟨a1, w, φ, a2, a3, a4, a5⟩
    · exact ⟨fun _ => 1, Or.inl ⟨by rw [e 5 (by omega)]; exact a1, rfl⟩, Or.inl ⟨a2, rfl⟩, k1⟩
    · exact ⟨fun f => clP (φ f), Or.inr ⟨by rw [e 5 (by omega)]; exact a1, φ, rl a5, rfl⟩, Or.inr ⟨w, φ, a2, a4, rfl⟩, fun f f' hf => by show clP (φ f) = clP (φ f'); rw [(rl a5).ag f f' hf]⟩
  obtain ⟨LT, t1, t2, t3⟩ := T0
  obtain ⟨LP, p1, p2, p3⟩ := P0
  exact ⟨LT, LP, t1, p1, t2, p2, t3, p3⟩
