/-! the class's minute -/
/-- a State of the class at a, and the row (w: with its pains) -/
def RS (I : Nat → Nat → Int32) (a n : Nat) (A : Row) (w : Bool) : Prop := I a 0 = nI n ∧ I a 1 = A 32 ∧ I a 2 = A 33 ∧ I a 3 = A 34 ∧ ∀ p, p < n → I (a + 1) p = A (41 + p) ∧ (w = true → I (a + 2) p = A (47 + p)) ∧ I (a + 3) p = A (59 + p) ∧ I (a + 4) p = A (53 + p) ∧ I (a + 5) p = A (35 + p) ∧ I (a + 6) (spo A p) = nI p
/-- a Court of the class at c, and the row -/
def RCt (I : Nat → Nat → Int32) (c : Nat) (A : Row) : Prop := I c 0 = A 1 ∧ I c 1 = A 2 ∧ I c 2 = A 3 ∧ I c 3 = A 0 ∧ (∀ p, p < 6 → I (c + 1) p = A (10 + p) ∧ I (c + 2) p = A (16 + p)) ∧ (∀ t, t < 4 → I (c + 3) t = A (22 + t) ∧ ∃ o, o ≤ 9 ∧ A (22 + t) = nI o) ∧ ∀ k, k < 6 → I (c + 4) k = A (26 + k) ∧ 0 ≤ (A (26 + k)).toInt ∧ (A (26 + k)).toInt ≤ 99
def CT (T : Nat → Option (Nat × Nat)) (I : Nat → Nat → Int32) (P : Nat → Nat → Option Nat) (c : Nat) (L : Row → Int32) : Prop := (P c 8 = none ∧ L = fun _ => 1) ∨ ∃ w φ, P c 8 = some w ∧ CLw T I w φ ∧ L = fun f => clT (φ f)
def CP (T : Nat → Option (Nat × Nat)) (I : Nat → Nat → Int32) (P : Nat → Nat → Option Nat) (c : Nat) (L : Row → Int32) : Prop := (P c 9 = none ∧ L = fun _ => 1) ∨ ∃ w φ, P c 9 = some w ∧ CLw T I w φ ∧ L = fun f => clP (φ f)
theorem near_tab : ∀ a, a < 6 → ∀ b, b < 6 → near (nI a) (nI b) = decide (a ≤ b + 1 ∧ b ≤ a + 1) := by decide +kernel
theorem ifc {P Q : Prop} [Decidable P] [Decidable Q] {x y : Nat} (h : P ↔ Q) : (if P then x else y) = (if Q then x else y) := by
  by_cases c : P
  · rw [if_pos c, if_pos (h.mp c)]
  · rw [if_neg c, if_neg (fun q => c (h.mpr q))]
def ivb (u q : Nat) : Nat := if ub u q = true then 1 else 0
theorem mBes_is {A : Row} {n u p pl pr : Nat} (hn : n ≤ 6) (h : Sp A n) (hp : p < n) (hl : 0 < spo A p → pl < n ∧ spo A pl + 1 = spo A p) (hr : spo A p + 1 < n → pr < n ∧ spo A pr = spo A p + 1) : ∀ q, q ≤ n → mBes A u p q = (if 0 < spo A p ∧ pl < q then ivb u pl else 0) + (if spo A p + 1 < n ∧ pr < q then ivb u pr else 0)
  | 0, _ => by
    rw [if_neg (by omega), if_neg (by omega)]
    rfl
  | q + 1, hq => by
    have ih := mBes_is (u := u) hn h hp hl hr q (by omega)
    obtain ⟨sq, eq⟩ := h.1 q (by omega)
    obtain ⟨sp, ep⟩ := h.1 p hp
    have key : mBes A u p (q + 1) = mBes A u p q + (if (spo A p ≤ spo A q + 1 ∧ spo A q ≤ spo A p + 1) ∧ q ≠ p then ivb u q else 0) := by
      show mBes A u p q + _ = _
      congr 1
      rw [ep, eq, near_tab _ (by omega) _ (by omega)]
      unfold ivb
      cases ub u q <;> simp
    rw [key, ih]
    have hinj := h.2.1
    have iq : spo A q = spo A p → q = p := fun e => hinj q (by omega) p hp e
    have il : 0 < spo A p → spo A q + 1 = spo A p → q = pl := fun e1 e2 => hinj q (by omega) pl (hl e1).1 (by have := (hl e1).2; omega)
    have ir : spo A p + 1 < n → spo A q = spo A p + 1 → q = pr := fun e1 e2 => hinj q (by omega) pr (hr e1).1 (by have := (hr e1).2; omega)
    have nl : 0 < spo A p → pl ≠ p := fun e e2 => by subst e2; have := (hl e).2; omega
    have nr : spo A p + 1 < n → pr ≠ p := fun e e2 => by subst e2; have := (hr e).2; omega
    have lr : 0 < spo A p → spo A p + 1 < n → pl ≠ pr := fun e e2 e3 => by subst e3; have := (hl e).2; have := (hr e2).2; omega
    clear key ih hinj ep eq
    by_cases e2 : 0 < spo A p ∧ q = pl
    · obtain ⟨k1, rfl⟩ := e2
      have h1 := (hl k1).2
      have h2 := nl k1
      have h3 : spo A p + 1 < n → q ≠ pr := lr k1
      rw [if_neg (show ¬ (0 < spo A p ∧ q < q) by omega), if_pos (show 0 < spo A p ∧ q < q + 1 by omega), if_pos (show (spo A p ≤ spo A q + 1 ∧ spo A q ≤ spo A p + 1) ∧ q ≠ p by omega)]
      rw [ifc (show (spo A p + 1 < n ∧ pr < q) ↔ (spo A p + 1 < n ∧ pr < q + 1) by omega)]
      omega
    · have e2 : 0 < spo A p → q ≠ pl := fun a b => e2 ⟨a, b⟩
      rw [ifc (show (0 < spo A p ∧ pl < q) ↔ (0 < spo A p ∧ pl < q + 1) by omega)]
      by_cases e3 : spo A p + 1 < n ∧ q = pr
      · obtain ⟨k1, rfl⟩ := e3
        have h1 := (hr k1).2
        have h2 := nr k1
        rw [if_neg (show ¬ (spo A p + 1 < n ∧ q < q) by omega), if_pos (show spo A p + 1 < n ∧ q < q + 1 by omega), if_pos (show (spo A p ≤ spo A q + 1 ∧ spo A q ≤ spo A p + 1) ∧ q ≠ p by omega)]
        omega
      · have e3 : spo A p + 1 < n → q ≠ pr := fun a b => e3 ⟨a, b⟩
        rw [ifc (show (spo A p + 1 < n ∧ pr < q) ↔ (spo A p + 1 < n ∧ pr < q + 1) by omega)]
        have hc : ¬ ((spo A p ≤ spo A q + 1 ∧ spo A q ≤ spo A p + 1) ∧ q ≠ p) := fun c => by
          rcases Nat.lt_trichotomy (spo A q) (spo A p) with g | g | g
          · exact e2 (by omega) (il (by omega) (by omega))
          · exact c.2 (iq g)
          · exact e3 (by omega) (ir (by omega) (by omega))
        rw [if_neg hc]
        omega
theorem s_besides_is {I : Nat → Nat → Int32} {a n u p : Nat} {A : Row} {w : Bool} (h : Wf A n u) (hR : RS I a n A w) (hp : p < n) : s_besides I a (nI p) = some (nI (mBes A u p n)) := by
  obtain ⟨hn, -, h32, hu2, hsp⟩ := id h
  obtain ⟨r0, r1, r2, r3, r4⟩ := hR
  have hu := h.u64
  obtain ⟨s1, s2⟩ := hsp.1 p hp
  obtain ⟨-, -, -, -, q5, -⟩ := r4 p hp
  have up : ∀ q, q < n → s_isUp I a (nI q) = b2 (ub u q) := fun q hq => s_isUp_is (r1.trans h32) hu (by omega)
  have on : ∀ s, s < n → ∃ q, q < n ∧ spo A q = s ∧ I (a + 6) s = nI q := fun s hs => by
    obtain ⟨q, hq, e⟩ := hsp.2.2 s hs
    exact ⟨q, hq, e, by rw [← e]; exact (r4 q hq).2.2.2.2.2⟩
  unfold s_besides
  rw [chk_nI (by omega) (by decide), nI_cl (by omega), q5, s2]
  dsimp only
  rw [r0]
  generalize hk : spo A p = k at *
  have vt : ∀ q, ub u q = true → ivb u q = 1 := fun q h => by unfold ivb; rw [h]; rfl
  have vf : ∀ q, ub u q = false → ivb u q = 0 := fun q h => by unfold ivb; rw [h]; rfl
  by_cases c0 : k = 0
  · subst c0
    rw [if_pos (show nI 0 ≤ 0 from by decide)]
    by_cases c1 : n ≤ 1
    · rw [if_pos (show nI n ≤ nI 0 + 1 from nI_le (b := 1) c1 (by decide))]
      rw [mBes_is (pl := 0) (pr := 0) hn hsp hp (fun q => by omega) (fun q => by omega) n (Nat.le_refl _), if_neg (by omega), if_neg (by omega)]
      rfl
    · obtain ⟨q, hq, e1, e2⟩ := on 1 (by omega)
      rw [if_neg (show ¬ nI n ≤ nI 0 + 1 from nI_ge (a := 1) (by omega) (by omega)), show nI 0 + 1 = nI 1 from rfl, chk_nI (by decide) (by decide), nI_cl (by decide), e2, up q hq]
      rw [mBes_is (pl := 0) (pr := q) hn hsp hp (fun q => by omega) (fun _ => ⟨hq, by omega⟩) n (Nat.le_refl _), if_neg (show ¬ (0 < spo A p ∧ 0 < n) by omega), if_pos (show spo A p + 1 < n ∧ q < n by omega)]
      cases hb : ub u q with
      | false => rw [b2_f, if_pos rfl, vf q hb]; rfl
      | true => rw [b2_t, if_neg (by decide), vt q hb]; rfl
  · obtain ⟨k, rfl⟩ : ∃ k', k = k' + 1 := ⟨k - 1, by omega⟩
    obtain ⟨ql, hql, e1, e2⟩ := on k (by omega)
    rw [if_neg (show ¬ nI (k + 1) ≤ 0 from nI_nle (by omega) (by omega)), nI_pred, chk_nI (by omega) (by decide), nI_cl (by omega), e2, up ql hql, nI_1]
    by_cases c1 : n ≤ k + 2
    · rw [if_pos (show nI n ≤ nI (k + 1 + 1) from nI_le c1 (by omega)), if_pos (show nI n ≤ nI (k + 1 + 1) from nI_le c1 (by omega))]
      rw [mBes_is (pl := ql) (pr := 0) hn hsp hp (fun _ => ⟨hql, by omega⟩) (fun q => by omega) n (Nat.le_refl _), if_neg (show ¬ (spo A p + 1 < n ∧ 0 < n) by omega), if_pos (show 0 < spo A p ∧ ql < n by omega)]
      cases hb : ub u ql with
      | false => rw [b2_f, if_pos rfl, vf ql hb]; rfl
      | true => rw [b2_t, if_neg (by decide), vt ql hb]; rfl
    · obtain ⟨qr, hqr, e3, e4⟩ := on (k + 1 + 1) (by omega)
      rw [if_neg (show ¬ nI n ≤ nI (k + 1 + 1) from nI_ge (by omega) (by omega)), if_neg (show ¬ nI n ≤ nI (k + 1 + 1) from nI_ge (by omega) (by omega)), chk_nI (by omega) (by decide), chk_nI (by omega) (by decide), nI_cl (by omega), e4, up qr hqr]
      rw [mBes_is (pl := ql) (pr := qr) hn hsp hp (fun _ => ⟨hql, by omega⟩) (fun _ => ⟨hqr, by omega⟩) n (Nat.le_refl _), if_pos (show 0 < spo A p ∧ ql < n by omega), if_pos (show spo A p + 1 < n ∧ qr < n by omega)]
      cases hb : ub u ql with
      | false =>
        rw [b2_f, if_pos rfl, vf ql hb]
        cases hb2 : ub u qr with
        | false => rw [b2_f, if_pos rfl, vf qr hb2]; rfl
        | true => rw [b2_t, if_neg (by decide), vt qr hb2]; rfl
      | true =>
        rw [b2_t, if_neg (by decide), vt ql hb]
        cases hb2 : ub u qr with
        | false => rw [b2_f, if_pos rfl, vf qr hb2]; rfl
        | true => rw [b2_t, if_neg (by decide), vt qr hb2]; rfl
theorem imin_eq (a b : Int32) : imin a b = if b < a then b else a := rfl
theorem clT_is (v : Int32) : imax 0 (imin 99 v) = clT v := by
  unfold imax imin clT
  by_cases c1 : v < 0
  · have h1 : v < 99 := by rw [i32_lt] at *; have : (0 : Int32).toInt = 0 := rfl; have : (99 : Int32).toInt = 99 := rfl; omega
    rw [if_pos h1, if_pos c1, if_neg (by rw [i32_lt] at *; omega)]
  · rw [if_neg c1]
    by_cases c2 : v < 99
    · rw [if_pos c2, if_neg (show ¬ (99 : Int32) < v by rw [i32_lt] at *; omega)]
      by_cases c3 : 0 < v
      · rw [if_pos c3]
      · rw [if_neg c3, i32_eq]
        rw [i32_lt] at c1 c3
        omega
    · rw [if_neg c2, if_pos (by decide)]
      by_cases c3 : 99 < v
      · rw [if_pos c3]
      · rw [if_neg c3, i32_eq]
        rw [i32_lt] at c2 c3
        omega
theorem clP_is (v : Int32) : imax (-99) (imin 99 v) = clP v := by
  have k1 : (-99 : Int32).toInt = -99 := rfl
  have k2 : (99 : Int32).toInt = 99 := rfl
  unfold imax imin clP
  by_cases c1 : v < -99
  · have h1 : v < 99 := by rw [i32_lt] at *; omega
    rw [if_pos h1, if_pos c1, if_neg (by rw [i32_lt] at *; omega)]
  · rw [if_neg c1]
    by_cases c2 : v < 99
    · rw [if_pos c2, if_neg (show ¬ (99 : Int32) < v by rw [i32_lt] at *; omega)]
      by_cases c3 : -99 < v
      · rw [if_pos c3]
      · rw [if_neg c3, i32_eq]
        rw [i32_lt] at c1 c3
        omega
    · rw [if_neg c2, if_pos (by decide)]
      by_cases c3 : 99 < v
      · rw [if_pos c3]
      · rw [if_neg c3, i32_eq]
        rw [i32_lt] at c2 c3
        omega
/-- where a Court's laws lie: apart from its own cells and from those of a State -/
def Apt (P : Nat → Nat → Option Nat) (c a : Nat) : Prop := (a + 7 ≤ c ∨ c + 8 ≤ a) ∧ ∀ w, P c 8 = some w ∨ P c 9 = some w → (a + 7 ≤ w ∨ w + 2 ≤ a) ∧ (c + 8 ≤ w ∨ w + 2 ≤ c)
theorem lossNow_is {T : Nat → Option (Nat × Nat)} {I : Nat → Nat → Int32} {P : Nat → Nat → Option Nat} {c a : Nat} {L : Row → Int32} (h : CT T I P c L) (h5 : lenT T (c + 5) = 7) (h6 : lenT T (c + 6) = 64) (hA : Apt P c a) : ∃ I1, ct_lossNow 2000 T I P c = some (L (I (c + 5)), I1) ∧ ∀ q, q ≠ c + 6 → I1 q = I q := by
  unfold ct_lossNow
  rcases h with ⟨h0, rfl⟩ | ⟨w, φ, h0, hw, rfl⟩
  · rw [h0]
    exact ⟨I, rfl, fun _ _ => rfl⟩
  · rw [h0]
    have := hA.2 w (Or.inl h0)
    obtain ⟨I1, e1, e2⟩ := tell_is hw h5 h6 (by omega) (by omega)
    refine ⟨I1, ?_, e2⟩
    dsimp only
    rw [e1, Option.bind_some]
    dsimp only
    rw [clT_is]
theorem painNow_is {T : Nat → Option (Nat × Nat)} {I : Nat → Nat → Int32} {P : Nat → Nat → Option Nat} {c a : Nat} {L : Row → Int32} (h : CP T I P c L) (h5 : lenT T (c + 5) = 7) (h6 : lenT T (c + 6) = 64) (hA : Apt P c a) : ∃ I1, ct_painNow 2000 T I P c = some (L (I (c + 5)), I1) ∧ ∀ q, q ≠ c + 6 → I1 q = I q := by
  unfold ct_painNow
  rcases h with ⟨h0, rfl⟩ | ⟨w, φ, h0, hw, rfl⟩
  · rw [h0]
    exact ⟨I, rfl, fun _ _ => rfl⟩
  · rw [h0]
    have := hA.2 w (Or.inr h0)
    obtain ⟨I1, e1, e2⟩ := tell_is hw h5 h6 (by omega) (by omega)
    refine ⟨I1, ?_, e2⟩
    dsimp only
    rw [e1, Option.bind_some]
    dsimp only
    rw [clP_is]
theorem CLw.same {T : Nat → Option (Nat × Nat)} {I I' : Nat → Nat → Int32} {w : Nat} {φ : Row → Int32} (h : CLw T I w φ) (e : I' (w + 1) = I (w + 1)) : CLw T I' w φ := by
  obtain ⟨C, m, h1, h2⟩ := h
  exact ⟨C, m, h1.same e, h2⟩
theorem CT.same {T : Nat → Option (Nat × Nat)} {I I' : Nat → Nat → Int32} {P : Nat → Nat → Option Nat} {c : Nat} {L : Row → Int32} (h : CT T I P c L) (e : ∀ w, P c 8 = some w ∨ P c 9 = some w → I' (w + 1) = I (w + 1)) : CT T I' P c L := by
  rcases h with h | ⟨w, φ, h0, hw, h1⟩
  · exact Or.inl h
  · exact Or.inr ⟨w, φ, h0, hw.same (e w (Or.inl h0)), h1⟩
theorem CP.same {T : Nat → Option (Nat × Nat)} {I I' : Nat → Nat → Int32} {P : Nat → Nat → Option Nat} {c : Nat} {L : Row → Int32} (h : CP T I P c L) (e : ∀ w, P c 8 = some w ∨ P c 9 = some w → I' (w + 1) = I (w + 1)) : CP T I' P c L := by
  rcases h with h | ⟨w, φ, h0, hw, h1⟩
  · exact Or.inl h
  · exact Or.inr ⟨w, φ, h0, hw.same (e w (Or.inr h0)), h1⟩
