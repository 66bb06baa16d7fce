theorem mplp_47 {ls pn : Nat → Int32} {u : Nat} {A : Row} (hu : u < 64) {p : Nat} (hp : p < 6) : ∀ j, j ≤ 6 → (mplp ls pn j u A).2 (47 + p) = if p < j ∧ ub u p = true then A (47 + p) + pn p else A (47 + p)
  | 0, _ => by
    rw [if_neg (by omega)]
    rfl
  | j + 1, hj => by
    have ih := mplp_47 (ls := ls) (pn := pn) (A := A) hu hp j (by omega)
    have hub := mplp_ub (ls := ls) (pn := pn) (A := A) hu j (by omega) j (Nat.le_refl _) (by omega)
    unfold mplp mpst
    rw [hub]
    generalize (mplp ls pn j u A).1 = u1 at *
    generalize (mplp ls pn j u A).2 = A1 at *
    by_cases e : p = j
    · subst e
      rw [if_neg (by omega)] at ih
      by_cases hb : ub u p = true
      · rw [if_pos hb, if_pos (show p < p + 1 ∧ ub u p = true from ⟨by omega, hb⟩)]
        split
        · simp (disch := omega) only [pk_un, pk_us]
          rw [ih]
        · simp (disch := omega) only [pk_un, pk_us]
          rw [ih]
      · rw [if_neg hb, if_neg (fun c => hb c.2)]
        exact ih
    · have e2 : (if p < j ∧ ub u p = true then A (47 + p) + pn p else A (47 + p)) = (if p < j + 1 ∧ ub u p = true then A (47 + p) + pn p else A (47 + p)) := by
        by_cases c : p < j ∧ ub u p = true
        · rw [if_pos c, if_pos ⟨by omega, c.2⟩]
        · rw [if_neg c, if_neg (fun c2 => c ⟨by omega, c2.2⟩)]
      rw [← e2, ← ih]
      split
      · split
        · simp (disch := omega) only [pk_un]
        · simp (disch := omega) only [pk_un]
      · rfl
theorem spo_out {A A' : Row} {p : Nat} (h : A' (35 + p) = A (35 + p)) : spo A' p = spo A p := by
  unfold spo
  rw [h]
theorem play2_go {a c n u : Nat} {A : Row} {ls pn : Nat → Int32} {g2 g3 : Int32} (hn : n ≤ 6) (hu : u < 64) (h32 : A 32 = nI u) (hac : a + 7 ≤ c ∨ c + 8 ≤ a) : ∀ (j k f : Nat) (I : Nat → Nat → Int32), k + j = n → j < f → RS I a n (mplp ls pn k u A).2 false → (∀ p, p < n → ub u p = true → I (c + 7) p = ls p) →
    ∃ I1, s_playMinute_92 2000 a c g2 g3 f (nI k) I = some (nI n, I1) ∧ RS I1 a n (mplp ls pn n u A).2 false ∧ ∀ q, q ≠ a → q ≠ a + 1 → q ≠ a + 3 → q ≠ a + 4 → I1 q = I q := by
  intro j
  induction j with
  | zero =>
    intro k f I hk hf hR hI
    obtain ⟨f, rfl⟩ : ∃ f', f = f' + 1 := ⟨f - 1, by omega⟩
    obtain rfl : k = n := by omega
    refine ⟨I, ?_, hR, fun _ _ _ _ _ => rfl⟩
    rw [s_playMinute_92, hR.1, if_pos (nI_le (Nat.le_refl _) (by omega))]
  | succ j ih =>
    intro k f I hk hf hR hI
    obtain ⟨f, rfl⟩ : ∃ f', f = f' + 1 := ⟨f - 1, by omega⟩
    have hk6 : k < 6 := by omega
    have hle := mplp_le (ls := ls) (pn := pn) (A := A) hu k (by omega)
    have h32k := mplp_u (ls := ls) (pn := pn) hu h32 k (by omega)
    have hub := mplp_ub (ls := ls) (pn := pn) (A := A) hu k (by omega) k (Nat.le_refl _) hk6
    have hst : mplp ls pn (k + 1) u A = mpst ls pn k (mplp ls pn k u A).1 (mplp ls pn k u A).2 := rfl
    have ih := ih (k + 1) f
    rw [hst] at ih
    generalize (mplp ls pn k u A).1 = u1 at *
    generalize (mplp ls pn k u A).2 = A1 at *
    have hu1 : u1 < 64 := by omega
    obtain ⟨r0, r1, r2, r3, r4⟩ := id hR
    rw [s_playMinute_92, r0, if_neg (nI_ge (by omega) (by omega)), s_isUp_is (r1.trans h32k) hu1 hk6, hub]
    unfold mpst at ih
    rw [hub] at ih
    cases hb : ub u k with
    | false =>
      rw [hb] at ih
      rw [b2_f, if_pos rfl, nI_1]
      exact ih I (by omega) (by omega) hR hI
    | true =>
      rw [hb] at ih
      rw [b2_t, if_neg (by decide), chk_nI hk6 (by decide), nI_cl (by omega), hI k (by omega) hb, (r4 k (by omega)).1]
      dsimp only
      rw [uI_e]
      simp only [if_true] at ih
      by_cases hc : A1 (41 + k) - ls k < 0
      · rw [if_pos hc] at ih
        rw [if_neg (show ¬ 0 ≤ A1 (41 + k) - ls k from Int32.not_le.mpr hc)]
        have e1 : (uI (uI I (a + 1) k (A1 (41 + k) - ls k)) (a + 1) k 0) a 1 = nI u1 := by
          rw [uI_o _ _ _ _ _ _ (by omega), uI_o _ _ _ _ _ _ (by omega)]
          exact r1.trans h32k
        rw [e1, clr_tab u1 hu1 k hk6, nI_1]
        simp (disch := omega) only [uI_e, uI_o, uI_k]
        rw [r2, r3]
        refine (ih _ (by omega) (by omega) ?_ ?_).imp fun I1 q => ⟨q.1, q.2.1, fun r h1 h2 h3 h4 => ?_⟩
        · refine ⟨?_, ?_, ?_, ?_, fun p hp => ?_⟩
          · simp (disch := omega) only [uI_e, uI_o, uI_k]
            exact r0
          · simp (disch := omega) only [uI_e, uI_o, uI_k, pk_un, pk_us]
          · simp (disch := omega) only [uI_e, uI_o, uI_k, pk_un, pk_us]
            exact r2
          · simp (disch := omega) only [uI_e, uI_o, uI_k, pk_un, pk_us]
            exact r3
          · obtain ⟨x1, x2, x3, x4, x5, x6⟩ := r4 p hp
            rw [spo_out (A := A1) (p := p) (by simp (disch := omega) only [pk_un])]
            by_cases e : p = k
            · subst e
              simp (disch := omega) only [uI_e, uI_o, uI_k, pk_un, pk_us]
              exact ⟨by trivial, (fun q => by cases q), by trivial, by trivial, x5, x6⟩
            · simp (disch := omega) only [uI_e, uI_o, uI_k, pk_un, pk_us]
              exact ⟨x1, (fun q => by cases q), x3, x4, x5, x6⟩
        · intro p hp hu
          simp (disch := omega) only [uI_o]
          exact hI p hp hu
        · rw [q.2.2 r h1 h2 h3 h4]
          rw [uI_row _ _ _ _ _ h4, uI_row _ _ _ _ _ h3, uI_row _ _ _ _ _ h1, uI_row _ _ _ _ _ h2, uI_row _ _ _ _ _ h2]
      · rw [if_neg hc] at ih
        rw [if_pos (show 0 ≤ A1 (41 + k) - ls k from Int32.not_lt.mp hc), nI_1]
        refine (ih _ (by omega) (by omega) ?_ ?_).imp fun I1 q => ⟨q.1, q.2.1, fun r h1 h2 h3 h4 => ?_⟩
        · refine ⟨?_, ?_, ?_, ?_, fun p hp => ?_⟩
          · simp (disch := omega) only [uI_e, uI_o, uI_k]
            exact r0
          · simp (disch := omega) only [uI_e, uI_o, uI_k, pk_un, pk_us]
            exact r1
          · simp (disch := omega) only [uI_e, uI_o, uI_k, pk_un, pk_us]
            exact r2
          · simp (disch := omega) only [uI_e, uI_o, uI_k, pk_un, pk_us]
            exact r3
          · obtain ⟨x1, x2, x3, x4, x5, x6⟩ := r4 p hp
            rw [spo_out (A := A1) (p := p) (by simp (disch := omega) only [pk_un])]
            by_cases e : p = k
            · subst e
              simp (disch := omega) only [uI_e, uI_o, uI_k, pk_un, pk_us]
              exact ⟨by trivial, (fun q => by cases q), x3, x4, x5, x6⟩
            · simp (disch := omega) only [uI_e, uI_o, uI_k, pk_un, pk_us]
              exact ⟨x1, (fun q => by cases q), x3, x4, x5, x6⟩
        · intro p hp hu
          simp (disch := omega) only [uI_o]
          exact hI p hp hu
        · rw [q.2.2 r h1 h2 h3 h4, uI_row _ _ _ _ _ h2]
/-- the class's minute, whole -/
theorem s_play_is {T : Nat → Option (Nat × Nat)} {I : Nat → Nat → Int32} {P : Nat → Nat → Option Nat} {a c n u t : Nat} {A : Row} {LT LP : Row → Int32} {w w0 : Bool} (h : Wf A n u) (hR : RS I a n A w0) (hC : CC T I P c A LT LP) (hA : Apt P c a) (hw : w = true → w0 = true) :
    ∃ I1, s_playMinute 2000 T I P a c (nI t) (b2 w) = some I1 ∧ RS I1 a n (mplay LT LP A n u t).2 w ∧ ∀ q, ¬ (a ≤ q ∧ q ≤ a + 6) → q ≠ c + 5 → q ≠ c + 6 → q ≠ c + 7 → I1 q = I q := by
  have hn := h.1
  have hac := hA.1
  have lw : ∀ w, P c 8 = some w ∨ P c 9 = some w → w + 1 ≠ c + 5 ∧ w + 1 ≠ c + 6 ∧ w + 1 ≠ c + 7 ∧ w + 1 ≠ a + 2 := fun w hw => by have := hA.2 w hw; omega
  unfold s_playMinute
  obtain ⟨I1, e1, f3, f5, f6, q1⟩ := lookAtMinute_is (t := nI t) h hR hac
  rw [e1, Option.bind_some]
  dsimp only
  have R1 : RS I1 a n A w0 := hR.same (fun q h1 h2 => q1 q (by omega))
  have C1 : CC T I1 P c A LT LP := hC.same (fun q h1 h2 => q1 q (by omega)) (fun w hw => q1 _ (lw w hw).1)
  obtain ⟨I2, e2, ⟨R2, C2, -, L2, P2⟩, q2, p2⟩ := play1_go (t := t) (w := w) h hA n 0 2000 I1 (by omega) (by omega) ⟨R1.nop, C1, ⟨f3, f5, f6⟩, fun p hp => absurd hp (Nat.not_lt_zero p), fun hw' p hp => by rw [if_neg (by omega)]; exact (R1.2.2.2.2 p hp).2.1 (hw hw')⟩
  have e2 : s_playMinute_9 2000 T P a c (nI t) (b2 w) 2000 0 I1 = some (nI n, I2) := e2
  rw [e2, Option.bind_some]
  dsimp only
  rw [uI_k _ _ _ _ _ (by decide)]
  obtain ⟨r0, r1, r2, r3, r4⟩ := id R2
  have R3 : RS (uI (uI I2 a 2 (I2 a 2 + 1)) a 3 (I2 a 3 + 1)) a n (mtick A) false := by
    unfold mtick
    refine ⟨?_, ?_, ?_, ?_, fun p hp => ?_⟩
    · simp (disch := omega) only [uI_e, uI_o, uI_k]
      exact r0
    · simp (disch := omega) only [uI_e, uI_o, uI_k, pk_un, pk_us]
      exact r1
    · simp (disch := omega) only [uI_e, uI_o, uI_k, pk_un, pk_us]
      rw [r2]
    · simp (disch := omega) only [uI_e, uI_o, uI_k, pk_un, pk_us]
      rw [r3]
    · obtain ⟨x1, x2, x3, x4, x5, x6⟩ := r4 p hp
      rw [spo_out (A := A) (p := p) (by simp (disch := omega) only [pk_un])]
      simp (disch := omega) only [uI_e, uI_o, uI_k, pk_un, pk_us]
      exact ⟨x1, (fun q => by cases q), x3, x4, x5, x6⟩
  obtain ⟨I4, e4, R4, q4⟩ := play2_go (c := c) (ls := fun p => LT (fac A n u p t)) (pn := fun p => LP (fac A n u p t)) (g2 := nI t) (g3 := b2 w) hn h.u64 (A := mtick A) (by unfold mtick; rw [pk_un (by decide), pk_un (by decide)]; exact h.2.2.1) hac n 0 2000 (uI (uI I2 a 2 (I2 a 2 + 1)) a 3 (I2 a 3 + 1)) (by omega) (by omega) R3 (fun p hp hu => by
    rw [uI_o _ _ _ _ _ _ (by omega), uI_o _ _ _ _ _ _ (by omega)]
    exact L2 p hp hu)
  have e4 : s_playMinute_92 2000 a c (nI t) (b2 w) 2000 0 (uI (uI I2 a 2 (I2 a 2 + 1)) a 3 (I2 a 3 + 1)) = some (nI n, I4) := e4
  rw [e4, Option.bind_some]
  refine ⟨I4, rfl, ?_, fun q h1 h5 h6 h7 => ?_⟩
  · obtain ⟨s0, s1, s2, s3, s4⟩ := R4
    refine ⟨s0, s1, s2, s3, fun p hp => ⟨(s4 p hp).1, fun hw' => ?_, (s4 p hp).2.2⟩⟩
    rw [q4 _ (by omega) (by omega) (by omega) (by omega), uI_o _ _ _ _ _ _ (by omega), uI_o _ _ _ _ _ _ (by omega), P2 hw' p hp]
    show _ = (mplp _ _ n u (mtick A)).2 (47 + p)
    rw [mplp_47 h.u64 (by omega) n hn]
    unfold mtick
    rw [pk_un (by omega), pk_un (by omega)]
  · rw [q4 q (by omega) (by omega) (by omega) (by omega), uI_row _ _ _ _ _ (by omega), uI_row _ _ _ _ _ (by omega), q2 q (by omega) h5 h6 h7, q1 q h5]
