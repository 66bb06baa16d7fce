/-! what can be undone -/
theorem r_n58_go {z d : Nat} {A : Row} (hd : d ≤ 9) (h65 : A 65 = nI d) : ∀ (j k f : Nat) (I : Nat → Nat → Int32), k + j = 33 → j < f → I (z + 1) = cpy A (I (z + 7)) (66 + 33 * d) 0 k → ∃ I1, r_notes_58 2000 z f (nI k) I = some (nI 33, I1) ∧ I1 (z + 1) = cpy A (I (z + 7)) (66 + 33 * d) 0 33 ∧ ∀ q, q ≠ z + 1 → I1 q = I q := by
  intro j
  induction j with
  | zero =>
    intro k f I hk hf hI
    obtain ⟨f, rfl⟩ : ∃ f', f = f' + 1 := ⟨f - 1, by omega⟩
    obtain rfl : k = 33 := by omega
    refine ⟨I, ?_, hI, fun _ _ => rfl⟩
    rw [r_notes_58, if_pos (by decide)]
  | succ j ih =>
    intro k f I hk hf hI
    obtain ⟨f, rfl⟩ : ∃ f', f = f' + 1 := ⟨f - 1, by omega⟩
    have e65 : I (z + 1) 65 = nI d := by rw [hI, cpy_out (by omega)]; exact h65
    rw [r_notes_58, if_neg (show ¬ (33 : Int32) ≤ nI k from nI_ge (b := 33) (by omega) (by decide)), show Int32.toNatClampNeg 65 = 65 from rfl, e65]
    rw [show (33 : Int32) * nI d = nI (33 * d) from pk_mul 33 d, show (66 : Int32) + nI (33 * d) = nI (66 + 33 * d) from nI_add 66 _, nI_add, chk_nI (by omega) (by decide), chk_nI (by omega) (by decide), nI_cl (by omega), nI_cl (by omega), nI_1]
    dsimp only
    obtain ⟨I1, e1, e2, e3⟩ := ih (k + 1) f (uI I (z + 1) (66 + 33 * d + k) (I (z + 7) k)) (by omega) (by omega) (by
      rw [uI_s, uI_row _ _ _ _ _ (by omega), hI]
      exact cpy_suc (by rw [Nat.zero_add]))
    rw [uI_row _ _ _ _ _ (by omega)] at e2
    exact ⟨I1, e1, e2, fun q hq => by rw [e3 q hq, uI_row _ _ _ _ _ hq]⟩
theorem r_n14_go {z : Nat} {A : Row} : ∀ (j k f : Nat) (I : Nat → Nat → Int32), k + j = 297 → j < f → I (z + 1) = cpy A A 66 99 k → ∃ I1, r_notes_14 2000 z f (nI k) I = some (nI 297, I1) ∧ I1 (z + 1) = cpy A A 66 99 297 ∧ ∀ q, q ≠ z + 1 → I1 q = I q := by
  intro j
  induction j with
  | zero =>
    intro k f I hk hf hI
    obtain ⟨f, rfl⟩ : ∃ f', f = f' + 1 := ⟨f - 1, by omega⟩
    obtain rfl : k = 297 := by omega
    refine ⟨I, ?_, hI, fun _ _ => rfl⟩
    rw [r_notes_14, if_pos (by decide)]
  | succ j ih =>
    intro k f I hk hf hI
    obtain ⟨f, rfl⟩ : ∃ f', f = f' + 1 := ⟨f - 1, by omega⟩
    rw [r_notes_14, if_neg (show ¬ (297 : Int32) ≤ nI k from nI_ge (b := 297) (by omega) (by decide))]
    rw [show (99 : Int32) + nI k = nI (99 + k) from nI_add 99 k, show (66 : Int32) + nI k = nI (66 + k) from nI_add 66 k, chk_nI (by omega) (by decide), chk_nI (by omega) (by decide), nI_cl (by omega), nI_cl (by omega), nI_1]
    dsimp only
    obtain ⟨I1, e1, e2, e3⟩ := ih (k + 1) f (uI I (z + 1) (66 + k) (I (z + 1) (99 + k))) (by omega) (by omega) (by
      rw [uI_s, hI]
      exact cpy_suc (by rw [cpy_out (by omega)]))
    exact ⟨I1, e1, e2, fun q hq => by rw [e3 q hq, uI_row _ _ _ _ _ hq]⟩
def mnote (A W : Row) (d : Nat) : Row := if d = 10 then upd (cpy (upd (cpy A A 66 99 297) 65 (nI 9)) W 363 0 33) 65 (nI 10) else upd (cpy A W (66 + 33 * d) 0 33) 65 (nI (d + 1))
theorem r_notes_is {I : Nat → Nat → Int32} {z d : Nat} (hd : d ≤ 10) (h65 : I (z + 1) 65 = nI d) : ∃ I1, r_notes 2000 I z = some I1 ∧ I1 (z + 1) = mnote (I (z + 1)) (I (z + 7)) d ∧ ∀ q, q ≠ z + 1 → I1 q = I q := by
  unfold r_notes mnote
  rw [show Int32.toNatClampNeg 65 = 65 from rfl, h65]
  by_cases e : d = 10
  · subst e
    rw [if_pos (show nI 10 = 10 from rfl), if_pos rfl]
    obtain ⟨I1, e1, e2, e3⟩ := r_n14_go (z := z) 297 0 2000 I (by omega) (by omega) cpy_0.symm
    have e1 : r_notes_14 2000 z 2000 0 I = _ := e1
    rw [e1, Option.bind_some]
    dsimp only
    have e65 : I1 (z + 1) 65 - 1 = nI 9 := by rw [e2, cpy_out (by omega), h65]; rfl
    rw [e65]
    obtain ⟨I2, f1, f2, f3⟩ := r_n58_go (z := z) (d := 9) (A := upd (cpy (I (z + 1)) (I (z + 1)) 66 99 297) 65 (nI 9)) (by omega) pk_us 33 0 2000 (uI I1 (z + 1) 65 (nI 9)) (by omega) (by omega) (by rw [uI_s, e2]; exact cpy_0.symm)
    have f1 : r_notes_58 2000 z 2000 0 _ = _ := f1
    rw [f1, Option.bind_some]
    dsimp only
    rw [uI_row _ _ _ _ _ (by omega), e3 _ (by omega)] at f2
    refine ⟨_, rfl, ?_, fun q hq => ?_⟩
    · have e10 : I2 (z + 1) 65 + 1 = nI 10 := by rw [f2, cpy_out (by omega), pk_us]; rfl
      rw [uI_s, e10, f2]
    · rw [uI_row _ _ _ _ _ hq, f3 q hq, uI_row _ _ _ _ _ hq, e3 q hq]
  · rw [if_neg (show ¬ nI d = 10 from fun c => e ((nI_eq (by omega) (by decide)).mp (show nI d = nI 10 from c))), if_neg e]
    obtain ⟨I2, f1, f2, f3⟩ := r_n58_go (z := z) (d := d) (A := I (z + 1)) (by omega) h65 33 0 2000 I (by omega) (by omega) cpy_0.symm
    have f1 : r_notes_58 2000 z 2000 0 _ = _ := f1
    rw [f1, Option.bind_some]
    dsimp only
    refine ⟨_, rfl, ?_, fun q hq => ?_⟩
    · rw [uI_s, f2]
      congr 1
      rw [cpy_out (by omega), h65]
      exact nI_1 d
    · rw [uI_row _ _ _ _ _ hq, f3 q hq]
theorem mnote_out {A W : Row} {d k : Nat} (hd : d ≤ 10) (hk : ¬ (65 ≤ k ∧ k < 396)) : mnote A W d k = A k := by
  unfold mnote
  by_cases e : d = 10
  · rw [if_pos e, pk_un (by omega), cpy_out (by omega), pk_un (by omega), cpy_out (by omega)]
  · rw [if_neg e, pk_un (by omega), cpy_out (by omega)]
theorem mnote_65 {A W : Row} {d : Nat} : mnote A W d 65 = nI (if d = 10 then 10 else d + 1) := by
  unfold mnote
  by_cases e : d = 10
  · rw [if_pos e, if_pos e, pk_us]
  · rw [if_neg e, if_neg e, pk_us]
/-- the row of the state kept as the j-th, before and behind -/
theorem mnote_prow {A W : Row} {d j k : Nat} (hd : d ≤ 10) (hj : j < (if d = 10 then 10 else d + 1)) (hk : 32 ≤ k ∧ k < 65) : prow (mnote A W d) j k = if j + 1 = (if d = 10 then 10 else d + 1) then W (k - 32) else prow A (if d = 10 then j + 1 else j) k := by
  unfold prow
  rw [cpy_in (by omega)]
  unfold mnote
  by_cases e : d = 10
  · rw [if_pos e] at hj
    rw [if_pos e, if_pos e, if_pos e, pk_un (by omega)]
    by_cases e2 : j + 1 = 10
    · rw [if_pos e2, cpy_in (by omega)]
      exact congrArg _ (by omega)
    · rw [if_neg e2, cpy_out (by omega), pk_un (by omega), cpy_in (by omega), cpy_in (by omega)]
      exact congrArg _ (by omega)
  · rw [if_neg e] at hj
    rw [if_neg e, if_neg e, if_neg e, pk_un (by omega)]
    by_cases e2 : j + 1 = d + 1
    · rw [if_pos e2, cpy_in (by omega)]
      exact congrArg _ (by omega)
    · rw [if_neg e2, cpy_out (by omega), cpy_in (by omega)]
theorem Wf.row {A A' : Row} {n u : Nat} (h : Wf A n u) (e1 : A' 1 = A 1) (e : ∀ k, 32 ≤ k → k < 41 → A' k = A k) : Wf A' n u :=
  ⟨h.1, e1.trans h.2.1, (e _ (by omega) (by omega)).trans h.2.2.1, h.2.2.2.1, h.2.2.2.2.same h.1 (fun k a b => e k (by omega) b)⟩
theorem RS.row {I : Nat → Nat → Int32} {a n : Nat} {A A' : Row} {w : Bool} (hn : n ≤ 6) (h : RS I a n A w) (e : ∀ k, 32 ≤ k → k < 65 → A' k = A k) : RS I a n A' w := by
  obtain ⟨h0, h1, h2, h3, h4⟩ := h
  refine ⟨h0, by rw [e _ (by omega) (by omega)]; exact h1, by rw [e _ (by omega) (by omega)]; exact h2, by rw [e _ (by omega) (by omega)]; exact h3, fun p hp => ?_⟩
  rw [spo_out (A := A) (p := p) (e _ (by omega) (by omega)), e (41 + p) (by omega) (by omega), e (47 + p) (by omega) (by omega), e (59 + p) (by omega) (by omega), e (53 + p) (by omega) (by omega), e (35 + p) (by omega) (by omega)]
  exact h4 p hp
theorem Ev.row {A A' : Row} {n N N' : Nat} (hn : n ≤ 6) (h : Ev A n N) (hN : N ≤ N') (e : ∀ k, 32 ≤ k → k < 65 → A' k = A k) : Ev A' n N' := by
  obtain ⟨ev, a1, a2, a3⟩ := h
  exact ⟨ev, by omega, by rw [e _ (by omega) (by omega)]; exact a2, fun p hp => (a3 p hp).row (e _ (by omega) (by omega)) (e _ (by omega) (by omega))⟩
theorem rem10 {a : Nat} (h : a < 100) : nI a - nI a / 10 * 10 = nI (a % 10) := pk_rem (d := 10) (by omega) (by decide) (by decide)
theorem imin10 {a : Nat} (h : a ≤ 11) : imin (nI a) 10 = nI (if 10 < a then 10 else a) := by
  unfold imin
  by_cases c : 10 < a
  · rw [if_pos c, if_pos (show (10 : Int32) < nI a from nI_lt (a := 10) c (by omega))]
    rfl
  · rw [if_neg c, if_neg (show ¬ (10 : Int32) < nI a from nI_nlt (b := a) (a := 10) (by omega) (by decide))]
/-- a State is kept for undoing -/
theorem pa_keep_is {I : Nat → Nat → Int32} {x d na v : Nat} (hd : d ≤ 10) (hna : na < 10) (h1 : I (x + 19) 1 = nI na) (h2 : I (x + 19) 2 = nI d) (h9 : I x 9 = nI v) : ∃ I1, x_keepForUndo I x = some I1 ∧ I1 (x + 19) 1 = nI ((na + 1) % 10) ∧ I1 (x + 19) 2 = nI (if d = 10 then 10 else d + 1) ∧ I1 x 9 = nI (v + 1) ∧ (∀ k, k ≠ 9 → I1 x k = I x k) ∧ (∀ k, k < 4 → I1 (x + (21 + 7 * na)) k = I (x + 94) k) ∧ (∀ i k, 1 ≤ i → i ≤ 6 → k < 6 → I1 (x + (21 + 7 * na) + i) k = I (x + 94 + i) k) ∧ ∀ q, q ≠ x → q ≠ x + 19 → ¬ (x + (21 + 7 * na) ≤ q ∧ q ≤ x + (21 + 7 * na) + 6) → I1 q = I q := by
  obtain ⟨I1, e1, e2, e3, e4⟩ := s_copyFrom_is (I := I) (a := x + (21 + 7 * na)) (b := x + 94) (by omega)
  unfold x_keepForUndo pa_keep
  rw [h1, chk_nI hna (by decide), nI_cl (by omega), e1, Option.bind_some]
  dsimp only
  have q19 : I1 (x + 19) = I (x + 19) := e4 _ (by omega)
  have q0 : I1 x = I x := e4 _ (by omega)
  rw [uI_k _ _ _ _ _ (by decide), q19, h1, h2, nI_1, nI_1, rem10 (by omega), imin10 (by omega), Option.bind_some]
  refine ⟨_, rfl, ?_, ?_, ?_, fun k hk => ?_, fun k hk => ?_, fun i k a1 a2 a3 => ?_, fun q a1 a2 a3 => ?_⟩
  · simp (disch := omega) only [uI_o, uI_k, uI_e]
  · simp (disch := omega) only [uI_o, uI_k, uI_e]
    congr 1
    by_cases c : d = 10
    · rw [if_pos (by omega), if_pos c]
    · rw [if_neg (by omega), if_neg c]
  · simp (disch := omega) only [uI_o, uI_k, uI_e]
    rw [q0, h9, nI_1]
  · simp (disch := omega) only [uI_o, uI_k]
    rw [q0]
  · simp (disch := omega) only [uI_o]
    exact e2 k hk
  · simp (disch := omega) only [uI_o]
    exact e3 i k a1 a2 a3
  · rw [uI_row _ _ _ _ _ a1, uI_row _ _ _ _ _ a2, uI_row _ _ _ _ _ a2, e4 q a3]
