theorem RS.same {I I' : Nat → Nat → Int32} {a n : Nat} {A : Row} {w : Bool} (h : RS I a n A w) (e : ∀ q, a ≤ q → q ≤ a + 6 → I' q = I q) : RS I' a n A w := by
  obtain ⟨h0, h1, h2, h3, h4⟩ := h
  refine ⟨by rw [e _ (by omega) (by omega)]; exact h0, by rw [e _ (by omega) (by omega)]; exact h1, by rw [e _ (by omega) (by omega)]; exact h2, by rw [e _ (by omega) (by omega)]; exact h3, fun p hp => ?_⟩
  rw [e (a + 1) (by omega) (by omega), e (a + 2) (by omega) (by omega), e (a + 3) (by omega) (by omega), e (a + 4) (by omega) (by omega), e (a + 5) (by omega) (by omega), e (a + 6) (by omega) (by omega)]
  exact h4 p hp
theorem RS.nop {I : Nat → Nat → Int32} {a n : Nat} {A : Row} {w : Bool} (h : RS I a n A w) : RS I a n A false := by
  obtain ⟨h0, h1, h2, h3, h4⟩ := h
  exact ⟨h0, h1, h2, h3, fun p hp => ⟨(h4 p hp).1, (fun q => by cases q), (h4 p hp).2.2⟩⟩
/-- all that a Court is good for -/
def CC (T : Nat → Option (Nat × Nat)) (I : Nat → Nat → Int32) (P : Nat → Nat → Option Nat) (c : Nat) (A : Row) (LT LP : Row → Int32) : Prop := RCt I c A ∧ CT T I P c LT ∧ CP T I P c LP ∧ Ag LT ∧ Ag LP ∧ lenT T (c + 5) = 7 ∧ lenT T (c + 6) = 64
theorem CC.same {T : Nat → Option (Nat × Nat)} {I I' : Nat → Nat → Int32} {P : Nat → Nat → Option Nat} {c : Nat} {A : Row} {LT LP : Row → Int32} (h : CC T I P c A LT LP) (e1 : ∀ q, c ≤ q → q ≤ c + 4 → I' q = I q) (e2 : ∀ w, P c 8 = some w ∨ P c 9 = some w → I' (w + 1) = I (w + 1)) : CC T I' P c A LT LP := by
  obtain ⟨⟨g0, g1, g2, g3, g4, g5, g6⟩, h1, h2, h3, h4, h5, h6⟩ := h
  refine ⟨⟨?_, ?_, ?_, ?_, fun p hp => ?_, fun t ht => ?_, fun k hk => ?_⟩, h1.same e2, h2.same e2, h3, h4, h5, h6⟩
  · rw [e1 _ (by omega) (by omega)]; exact g0
  · rw [e1 _ (by omega) (by omega)]; exact g1
  · rw [e1 _ (by omega) (by omega)]; exact g2
  · rw [e1 _ (by omega) (by omega)]; exact g3
  · rw [e1 (c + 1) (by omega) (by omega), e1 (c + 2) (by omega) (by omega)]; exact g4 p hp
  · rw [e1 _ (by omega) (by omega)]; exact g5 t ht
  · rw [e1 _ (by omega) (by omega)]; exact g6 k hk
theorem lookAtMinute_is {I : Nat → Nat → Int32} {a c n u : Nat} {A : Row} {w : Bool} {t : Int32} (h : Wf A n u) (hR : RS I a n A w) (hac : a + 7 ≤ c ∨ c + 8 ≤ a) : ∃ I1, ct_lookAtMinute I c a t = some I1 ∧ I1 (c + 5) 3 = t ∧ I1 (c + 5) 5 = nI (pcn u) ∧ I1 (c + 5) 6 = imin (A 33) 99 ∧ ∀ q, q ≠ c + 5 → I1 q = I q := by
  unfold ct_lookAtMinute s_howManyUp
  refine ⟨_, rfl, ?_, ?_, ?_, fun q hq => ?_⟩
  · simp only [show Int32.toNatClampNeg 3 = 3 from rfl, show Int32.toNatClampNeg 5 = 5 from rfl, show Int32.toNatClampNeg 6 = 6 from rfl]
    simp (disch := omega) only [uI_e, uI_o, uI_k]
  · simp only [show Int32.toNatClampNeg 3 = 3 from rfl, show Int32.toNatClampNeg 5 = 5 from rfl, show Int32.toNatClampNeg 6 = 6 from rfl]
    simp (disch := omega) only [uI_e, uI_o, uI_k]
    rw [hR.2.1, h.2.2.1, bitCount_tab u h.u64]
  · simp only [show Int32.toNatClampNeg 3 = 3 from rfl, show Int32.toNatClampNeg 5 = 5 from rfl, show Int32.toNatClampNeg 6 = 6 from rfl]
    simp (disch := omega) only [uI_e, uI_o, uI_k]
    rw [hR.2.2.1]
  · rw [uI_row _ _ _ _ _ hq, uI_row _ _ _ _ _ hq, uI_row _ _ _ _ _ hq]
theorem lookAtPerson_is {I : Nat → Nat → Int32} {a c n u p t : Nat} {A : Row} {w : Bool} (h : Wf A n u) (hR : RS I a n A w) (hac : a + 7 ≤ c ∨ c + 8 ≤ a) (hp : p < n) (hm : I (c + 2) p = A (16 + p)) (f3 : I (c + 5) 3 = nI t) (f5 : I (c + 5) 5 = nI (pcn u)) (f6 : I (c + 5) 6 = imin (A 33) 99) : ∃ I1, ct_lookAtPerson I c a (nI p) = some I1 ∧ (∀ k, k < 7 → I1 (c + 5) k = fac A n u p t k) ∧ ∀ q, q ≠ c + 5 → I1 q = I q := by
  have hn := h.1
  unfold ct_lookAtPerson
  simp only [show Int32.toNatClampNeg 0 = 0 from rfl, show Int32.toNatClampNeg 1 = 1 from rfl, show Int32.toNatClampNeg 2 = 2 from rfl, show Int32.toNatClampNeg 4 = 4 from rfl]
  rw [chk_nI (by omega) (by decide), nI_cl (by omega)]
  simp (disch := omega) only [uI_o]
  rw [s_besides_is h (hR.same (I' := uI (uI (uI I (c + 5) 0 (nI p)) (c + 5) 1 (I (c + 2) p)) (c + 5) 2 (I (a + 1) p)) (fun q h1 h2 => by
    rw [uI_row _ _ _ _ _ (by omega), uI_row _ _ _ _ _ (by omega), uI_row _ _ _ _ _ (by omega)])) hp, Option.bind_some]
  refine ⟨_, rfl, fun k hk => ?_, fun q hq => ?_⟩
  · unfold fac
    rw [hm, (hR.2.2.2.2 p hp).1]
    match k, hk with
    | 0, _ => simp (disch := omega) only [uI_e, uI_k]; rfl
    | 1, _ => simp (disch := omega) only [uI_e, uI_k]; rfl
    | 2, _ => simp (disch := omega) only [uI_e, uI_k]; rfl
    | 3, _ => simp (disch := omega) only [uI_e, uI_k]; exact f3
    | 4, _ => simp (disch := omega) only [uI_e, uI_k]; rfl
    | 5, _ => simp (disch := omega) only [uI_e, uI_k]; exact f5
    | 6, _ => simp (disch := omega) only [uI_e, uI_k]; exact f6
  · rw [uI_row _ _ _ _ _ hq, uI_row _ _ _ _ _ hq, uI_row _ _ _ _ _ hq, uI_row _ _ _ _ _ hq]
def In1 (T : Nat → Option (Nat × Nat)) (P : Nat → Nat → Option Nat) (a c n u t : Nat) (A : Row) (LT LP : Row → Int32) (w : Bool) (k : Nat) (I : Nat → Nat → Int32) : Prop :=
  RS I a n A false ∧ CC T I P c A LT LP ∧ (I (c + 5) 3 = nI t ∧ I (c + 5) 5 = nI (pcn u) ∧ I (c + 5) 6 = imin (A 33) 99) ∧ (∀ p, p < k → ub u p = true → I (c + 7) p = LT (fac A n u p t)) ∧ (w = true → ∀ p, p < n → I (a + 2) p = if p < k ∧ ub u p = true then A (47 + p) + LP (fac A n u p t) else A (47 + p))
theorem play1_go {T : Nat → Option (Nat × Nat)} {P : Nat → Nat → Option Nat} {a c n u t : Nat} {A : Row} {LT LP : Row → Int32} {w : Bool} (h : Wf A n u) (hA : Apt P c a) : ∀ (j k f : Nat) (I : Nat → Nat → Int32), k + j = n → j < f → In1 T P a c n u t A LT LP w k I →
    ∃ I1, s_playMinute_9 2000 T P a c (nI t) (b2 w) f (nI k) I = some (nI n, I1) ∧ In1 T P a c n u t A LT LP w n I1 ∧ (∀ q, q ≠ a + 2 → q ≠ c + 5 → q ≠ c + 6 → q ≠ c + 7 → I1 q = I q) ∧ (w = false → I1 (a + 2) = I (a + 2)) := by
  have hn := h.1
  have hac := hA.1
  intro j
  induction j with
  | zero =>
    intro k f I hk hf hI
    obtain ⟨f, rfl⟩ : ∃ f', f = f' + 1 := ⟨f - 1, by omega⟩
    obtain rfl : k = n := by omega
    refine ⟨I, ?_, hI, fun _ _ _ _ _ => rfl, fun _ => rfl⟩
    rw [s_playMinute_9, hI.1.1, if_pos (nI_le (Nat.le_refl _) (by omega))]
  | succ j ih =>
    intro k f I hk hf hI
    obtain ⟨f, rfl⟩ : ∃ f', f = f' + 1 := ⟨f - 1, by omega⟩
    obtain ⟨hR, hC, ⟨f3, f5, f6⟩, hl, hpn⟩ := id hI
    rw [s_playMinute_9, hR.1, if_neg (nI_ge (by omega) (by omega)), s_isUp_is (hR.2.1.trans h.2.2.1) h.u64 (by omega)]
    cases hb : ub u k with
    | false =>
      rw [b2_f, if_pos rfl, nI_1]
      refine ih (k + 1) f I (by omega) (by omega) ⟨hR, hC, ⟨f3, f5, f6⟩, fun p hp hu => ?_, fun hw p hp => ?_⟩
      · have : p ≠ k := fun e => by rw [e, hb] at hu; cases hu
        exact hl p (by omega) hu
      · rw [hpn hw p hp]
        by_cases e : p = k
        · subst e
          rw [if_neg (by omega), if_neg (fun q => by rw [hb] at q; cases q.2)]
        · by_cases c1 : p < k ∧ ub u p = true
          · rw [if_pos c1, if_pos ⟨by omega, c1.2⟩]
          · rw [if_neg c1, if_neg (fun q => c1 ⟨by omega, q.2⟩)]
    | true =>
      rw [b2_t, if_neg (by decide)]
      obtain ⟨I1, e1, g1, q1⟩ := lookAtPerson_is (t := t) h hR hac (show k < n by omega) (hC.1.2.2.2.2.1 k (by omega)).2 f3 f5 f6
      rw [e1, Option.bind_some]
      have lw : ∀ w, P c 8 = some w ∨ P c 9 = some w → w + 1 ≠ c + 5 ∧ w + 1 ≠ c + 6 ∧ w + 1 ≠ c + 7 ∧ w + 1 ≠ a + 2 := fun w hw => by have := hA.2 w hw; omega
      have C1 : CC T I1 P c A LT LP := hC.same (fun q h1 h2 => q1 q (by omega)) (fun w hw => q1 _ (lw w hw).1)
      obtain ⟨I2, e2, q2⟩ := lossNow_is (a := a) C1.2.1 C1.2.2.2.2.2.1 C1.2.2.2.2.2.2 hA
      dsimp only
      rw [e2, Option.bind_some]
      dsimp only
      rw [chk_nI (by omega) (by decide), nI_cl (by omega), C1.2.2.2.1 _ _ g1]
      have q3 : ∀ q, q ≠ c + 5 → q ≠ c + 6 → q ≠ c + 7 → uI I2 (c + 7) k (LT (fac A n u k t)) q = I q := fun q a1 a2 a3 => by rw [uI_row _ _ _ _ _ a3, q2 q a2, q1 q a1]
      have R3 : RS (uI I2 (c + 7) k (LT (fac A n u k t))) a n A false := hR.same (fun q h1 h2 => q3 q (by omega) (by omega) (by omega))
      have C3 : CC T (uI I2 (c + 7) k (LT (fac A n u k t))) P c A LT LP := hC.same (fun q h1 h2 => q3 q (by omega) (by omega) (by omega)) (fun w hw => q3 _ (lw w hw).1 (lw w hw).2.1 (lw w hw).2.2.1)
      have F3 : ∀ i, i < 7 → uI I2 (c + 7) k (LT (fac A n u k t)) (c + 5) i = fac A n u k t i := fun i hi => by rw [uI_o _ _ _ _ _ _ (by omega), q2 _ (by omega), g1 i hi]
      have L3 : ∀ p, p < k + 1 → ub u p = true → uI I2 (c + 7) k (LT (fac A n u k t)) (c + 7) p = LT (fac A n u p t) := fun p hp hu => by
        by_cases e : p = k
        · subst e
          rw [uI_e]
        · rw [uI_k _ _ _ _ _ e, q2 _ (by omega), q1 _ (by omega)]
          exact hl p (by omega) hu
      generalize uI I2 (c + 7) k (LT (fac A n u k t)) = I3 at *
      cases w with
      | false =>
        rw [b2_f, if_pos rfl, nI_1]
        obtain ⟨I4, e4, g4, q4, q5⟩ := ih (k + 1) f I3 (by omega) (by omega) ⟨R3, C3, ⟨F3 3 (by decide), F3 5 (by decide), F3 6 (by decide)⟩, L3, fun hw => by cases hw⟩
        refine ⟨I4, e4, g4, fun q a1 a2 a3 a4 => ?_, fun hw => ?_⟩
        · rw [q4 q a1 a2 a3 a4, q3 q a2 a3 a4]
        · rw [q5 hw, q3 _ (by omega) (by omega) (by omega)]
      | true =>
        rw [b2_t, if_neg (by decide)]
        obtain ⟨I4, e4, q4⟩ := painNow_is (a := a) C3.2.2.1 C3.2.2.2.2.2.1 C3.2.2.2.2.2.2 hA
        rw [e4, Option.bind_some]
        dsimp only
        rw [C3.2.2.2.2.1 _ _ F3, nI_1]
        have P3 := hpn rfl k (by omega)
        rw [if_neg (by omega)] at P3
        rw [q3 (a + 2) (by omega) (by omega) (by omega), P3]
        have q5 : ∀ q, q ≠ a + 2 → q ≠ c + 5 → q ≠ c + 6 → q ≠ c + 7 → uI I4 (a + 2) k (A (47 + k) + LP (fac A n u k t)) q = I q := fun q a1 a2 a3 a4 => by rw [uI_row _ _ _ _ _ a1, q4 q a3, q3 q a2 a3 a4]
        have R5 : RS (uI I4 (a + 2) k (A (47 + k) + LP (fac A n u k t))) a n A false := by
          obtain ⟨h0, h1, h2, h3, h4⟩ := hR
          refine ⟨by rw [q5 _ (by omega) (by omega) (by omega) (by omega)]; exact h0, by rw [q5 _ (by omega) (by omega) (by omega) (by omega)]; exact h1, by rw [q5 _ (by omega) (by omega) (by omega) (by omega)]; exact h2, by rw [q5 _ (by omega) (by omega) (by omega) (by omega)]; exact h3, fun p hp => ?_⟩
          rw [q5 (a + 1) (by omega) (by omega) (by omega) (by omega), q5 (a + 3) (by omega) (by omega) (by omega) (by omega), q5 (a + 4) (by omega) (by omega) (by omega) (by omega), q5 (a + 5) (by omega) (by omega) (by omega) (by omega), q5 (a + 6) (by omega) (by omega) (by omega) (by omega)]
          exact ⟨(h4 p hp).1, (fun q => by cases q), (h4 p hp).2.2⟩
        have C5 : CC T (uI I4 (a + 2) k (A (47 + k) + LP (fac A n u k t))) P c A LT LP := hC.same (fun q h1 h2 => q5 q (by omega) (by omega) (by omega) (by omega)) (fun w hw => q5 _ (lw w hw).2.2.2 (lw w hw).1 (lw w hw).2.1 (lw w hw).2.2.1)
        have hI5 : In1 T P a c n u t A LT LP true (k + 1) (uI I4 (a + 2) k (A (47 + k) + LP (fac A n u k t))) := by
          refine ⟨R5, C5, ⟨?_, ?_, ?_⟩, fun p hp hu => ?_, fun hw p hp => ?_⟩
          · rw [uI_o _ _ _ _ _ _ (by omega), q4 _ (by omega)]; exact F3 3 (by decide)
          · rw [uI_o _ _ _ _ _ _ (by omega), q4 _ (by omega)]; exact F3 5 (by decide)
          · rw [uI_o _ _ _ _ _ _ (by omega), q4 _ (by omega)]; exact F3 6 (by decide)
          · rw [uI_o _ _ _ _ _ _ (by omega), q4 _ (by omega)]; exact L3 p hp hu
          · by_cases e : p = k
            · subst e
              rw [uI_e, if_pos ⟨by omega, hb⟩]
            · rw [uI_k _ _ _ _ _ e, q4 _ (by omega), q3 _ (by omega) (by omega) (by omega), hpn rfl p hp]
              by_cases c1 : p < k ∧ ub u p = true
              · rw [if_pos c1, if_pos ⟨by omega, c1.2⟩]
              · rw [if_neg c1, if_neg (fun q => c1 ⟨by omega, q.2⟩)]
        obtain ⟨I6, e6, g6, q6, -⟩ := ih (k + 1) f _ (by omega) (by omega) hI5
        refine ⟨I6, e6, g6, fun q a1 a2 a3 a4 => ?_, fun hw => by cases hw⟩
        rw [q6 q a1 a2 a3 a4, q5 q a1 a2 a3 a4]
