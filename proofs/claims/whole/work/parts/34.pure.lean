/-! a minute on the row -/
def mpst (ls pn : Nat → Int32) (p u : Nat) (A : Row) : Nat × Row :=
  if ub u p then
    (if A (41 + p) - ls p < 0 then
      (clr u p, upd (upd (upd (upd (upd (upd A (47 + p) (A (47 + p) + pn p)) (41 + p) (A (41 + p) - ls p)) (41 + p) 0) 32 (nI (clr u p))) (53 + p) (A 34)) (59 + p) (A 33))
    else (u, upd (upd A (47 + p) (A (47 + p) + pn p)) (41 + p) (A (41 + p) - ls p)))
  else (u, A)
def mplp (ls pn : Nat → Int32) : Nat → Nat → Row → Nat × Row
  | 0, u, A => (u, A)
  | j + 1, u, A => mpst ls pn j (mplp ls pn j u A).1 (mplp ls pn j u A).2
def mtick (A : Row) : Row := upd (upd A 33 (A 33 + 1)) 34 (A 34 + 1)
def mplay (LT LP : Row → Int32) (A : Row) (n u t : Nat) : Nat × Row := mplp (fun p => LT (fac A n u p t)) (fun p => LP (fac A n u p t)) n u (mtick A)
/-- places of the row that a minute may change -/
def inst (k : Nat) : Prop := k = 32 ∨ k = 33 ∨ k = 34 ∨ (41 ≤ k ∧ k < 65)
theorem mpst_out {ls pn : Nat → Int32} {p u : Nat} {A : Row} {k : Nat} (hp : p < 6) (hk : k ≠ 32 ∧ ¬ (41 ≤ k ∧ k < 65)) : (mpst ls pn p u A).2 k = A k := by
  unfold mpst
  split
  · split
    · show upd _ _ _ k = _
      rw [pk_un (by omega), pk_un (by omega), pk_un (by omega), pk_un (by omega), pk_un (by omega), pk_un (by omega)]
    · show upd _ _ _ k = _
      rw [pk_un (by omega), pk_un (by omega)]
  · rfl
theorem mplp_out {ls pn : Nat → Int32} {u : Nat} {A : Row} {k : Nat} (hk : k ≠ 32 ∧ ¬ (41 ≤ k ∧ k < 65)) : ∀ j, j ≤ 6 → (mplp ls pn j u A).2 k = A k
  | 0, _ => rfl
  | j + 1, hj => by
    unfold mplp
    rw [mpst_out (by omega) hk, mplp_out hk j (by omega)]
theorem mpst_u {ls pn : Nat → Int32} {p u : Nat} {A : Row} (h : A 32 = nI u) (hp : p < 6) : (mpst ls pn p u A).2 32 = nI (mpst ls pn p u A).1 := by
  unfold mpst
  split
  · split
    · show upd _ _ _ 32 = nI (clr u p)
      rw [pk_un (by omega), pk_un (by omega), pk_us]
    · show upd _ _ _ 32 = nI u
      rw [pk_un (by omega), pk_un (by omega), h]
  · exact h
theorem mpst_le {ls pn : Nat → Int32} {p u : Nat} {A : Row} (hu : u < 64) (hp : p < 6) : (mpst ls pn p u A).1 ≤ u := by
  unfold mpst
  split
  · split
    · exact clr_le u hu p hp
    · exact Nat.le_refl _
  · exact Nat.le_refl _
theorem mplp_le {ls pn : Nat → Int32} {u : Nat} {A : Row} (hu : u < 64) : ∀ j, j ≤ 6 → (mplp ls pn j u A).1 ≤ u
  | 0, _ => Nat.le_refl _
  | j + 1, hj => by
    unfold mplp
    have h1 := mplp_le (ls := ls) (pn := pn) (A := A) hu j (by omega)
    exact Nat.le_trans (mpst_le (by omega) (by omega)) h1
theorem mplp_u {ls pn : Nat → Int32} {u : Nat} {A : Row} (hu : u < 64) (h : A 32 = nI u) : ∀ j, j ≤ 6 → (mplp ls pn j u A).2 32 = nI (mplp ls pn j u A).1
  | 0, _ => h
  | j + 1, hj => by
    unfold mplp
    exact mpst_u (mplp_u hu h j (by omega)) (by omega)
/-- who stands behind so many: those told, less those who sat down -/
theorem mpst_ub {ls pn : Nat → Int32} {p u : Nat} {A : Row} (hu : u < 64) (hp : p < 6) {q : Nat} (hq : q < 6) (hne : q ≠ p) : ub (mpst ls pn p u A).1 q = ub u q := by
  unfold mpst
  split
  · split
    · show ub (clr u p) q = ub u q
      rw [clr_ub u hu p hp q hq]
      simp [Ne.symm hne]
    · rfl
  · rfl
theorem mplp_ub {ls pn : Nat → Int32} {u : Nat} {A : Row} (hu : u < 64) : ∀ j, j ≤ 6 → ∀ q, j ≤ q → q < 6 → ub (mplp ls pn j u A).1 q = ub u q
  | 0, _, _, _, _ => rfl
  | j + 1, hj, q, h1, h2 => by
    unfold mplp
    have hl := mplp_le (ls := ls) (pn := pn) (A := A) hu j (by omega)
    rw [mpst_ub (by omega) (by omega) h2 (by omega), mplp_ub hu j (by omega) q (by omega) h2]
theorem mplp_pcn {ls pn : Nat → Int32} {u : Nat} {A : Row} (hu : u < 64) : ∀ j, j ≤ 6 → pcn (mplp ls pn j u A).1 ≤ pcn u
  | 0, _ => Nat.le_refl _
  | j + 1, hj => by
    unfold mplp
    have h1 := mplp_pcn (ls := ls) (pn := pn) (A := A) hu j (by omega)
    have h2 := mplp_le (ls := ls) (pn := pn) (A := A) hu j (by omega)
    refine Nat.le_trans ?_ h1
    generalize (mplp ls pn j u A).1 = w at *
    unfold mpst
    split
    · split
      · have := clr_pcn w (by omega) j (by omega)
        show pcn (clr w j) ≤ pcn w
        omega
      · exact Nat.le_refl _
    · exact Nat.le_refl _
theorem mplay_out {LT LP : Row → Int32} {A : Row} {n u t k : Nat} (hn : n ≤ 6) (hk : ¬ inst k) : (mplay LT LP A n u t).2 k = A k := by
  unfold inst at hk
  unfold mplay
  rw [mplp_out (by omega) n hn]
  unfold mtick
  rw [pk_un (by omega), pk_un (by omega)]
theorem Wf.play {LT LP : Row → Int32} {A : Row} {n u t : Nat} (h : Wf A n u) : Wf (mplay LT LP A n u t).2 n (mplay LT LP A n u t).1 := by
  obtain ⟨h1, h2, h3, h4, h5⟩ := id h
  have hu := h.u64
  refine ⟨h1, ?_, ?_, ?_, h5.same h1 (fun k a b => mplay_out h1 (by unfold inst; omega))⟩
  · rw [mplay_out h1 (by unfold inst; omega)]
    exact h2
  · exact mplp_u hu (by unfold mtick; rw [pk_un (by decide), pk_un (by decide)]; exact h3) n h1
  · exact Nat.lt_of_le_of_lt (mplp_le hu n h1) h4
/-- laws are told by places that a minute leaves alone -/
theorem Seg.same {A A' : Row} {g fr : Nat} {cs : List Int32} (h : Seg A g fr cs) (he : ∀ k, k < 12 ∨ (397 ≤ k ∧ k < 1297) → A' k = A k) : Seg A' g fr cs := by
  obtain ⟨h1, h2, h3, h4, h5⟩ := h
  refine ⟨h1, h2, ?_, ?_, fun i hi => ?_⟩
  · rw [he _ (by omega)]; exact h3
  · rw [he _ (by omega)]; exact h4
  · rw [he _ (by omega)]; exact h5 i hi
theorem RLw.same {A A' : Row} {g : Nat} {φ : Row → Int32} (h : RLw A g φ) (he : ∀ k, k < 12 ∨ (397 ≤ k ∧ k < 1297) → A' k = A k) : RLw A' g φ := by
  obtain ⟨fr, cs, h1, h2⟩ := h
  exact ⟨fr, cs, h1.same he, h2⟩
theorem RT.same {A A' : Row} {L : Row → Int32} (h : RT A L) (he : ∀ k, k < 12 ∨ (397 ≤ k ∧ k < 1297) → A' k = A k) : RT A' L := by
  rcases h with ⟨h0, h1⟩ | ⟨h0, φ, h1, h2⟩
  · exact Or.inl ⟨by rw [he _ (by omega)]; exact h0, h1⟩
  · exact Or.inr ⟨by rw [he _ (by omega)]; exact h0, φ, h1.same he, h2⟩
theorem RP.same {A A' : Row} {L : Row → Int32} (h : RP A L) (he : ∀ k, k < 12 ∨ (397 ≤ k ∧ k < 1297) → A' k = A k) : RP A' L := by
  rcases h with ⟨h0, h1⟩ | ⟨h0, φ, h1, h2⟩
  · exact Or.inl ⟨by rw [he _ (by omega)]; exact h0, h1⟩
  · exact Or.inr ⟨by rw [he _ (by omega)]; exact h0, φ, h1.same he, h2⟩
theorem r_plays_2_go {z n u tn : Nat} {A : Row} {LT LP : Row → Int32} (h : Wf A n u) (hT : RT A LT) (hP : RP A LP) : ∀ (j k f : Nat) (I : Nat → Nat → Int32), k + j = n → j < f → I (z + 1) = A → (∀ p, p < k → ub u p = true → I (z + 8) p = LT (fac A n u p tn) ∧ I (z + 9) p = LP (fac A n u p tn)) →
    ∃ I1, r_plays_2 2000 z (nI tn) f (nI k) I = some (nI n, I1) ∧ (∀ p, p < n → ub u p = true → I1 (z + 8) p = LT (fac A n u p tn) ∧ I1 (z + 9) p = LP (fac A n u p tn)) ∧ ∀ q, q ≠ z + 5 → q ≠ z + 6 → q ≠ z + 8 → q ≠ z + 9 → I1 q = I q := by
  have hn := h.1
  intro j
  induction j with
  | zero =>
    intro k f I hk hf hA hI
    obtain ⟨f, rfl⟩ : ∃ f', f = f' + 1 := ⟨f - 1, by omega⟩
    obtain rfl : k = n := by omega
    refine ⟨I, ?_, hI, fun _ _ _ _ _ => rfl⟩
    rw [r_plays_2, show Int32.toNatClampNeg 1 = 1 from rfl, hA, h.2.1, if_pos (nI_le (Nat.le_refl _) (by omega))]
  | succ j ih =>
    intro k f I hk hf hA hI
    obtain ⟨f, rfl⟩ : ∃ f', f = f' + 1 := ⟨f - 1, by omega⟩
    subst hA
    have hk6 : k < 6 := by omega
    have up : ∀ I' : Nat → Nat → Int32, I' (z + 1) = I (z + 1) → r_isUp I' z (nI k) = some (b2 (ub u k)) := fun I' e => r_isUp_is (by rw [e]; exact h.2.2.1) h.u64 hk6
    rw [r_plays_2, show Int32.toNatClampNeg 1 = 1 from rfl, h.2.1, if_neg (nI_ge (by omega) (by omega)), up I rfl, Option.bind_some]
    try dsimp only
    cases hb : ub u k with
    | false =>
      rw [b2_f, if_pos rfl, chk_nI hk6 (by decide)]
      rw [up _ (uI_row _ _ _ _ _ (by omega)), Option.bind_some]
      try dsimp only
      rw [hb, b2_f, if_pos rfl, nI_1, nI_cl (by omega)]
      obtain ⟨I1, e1, e2, e3⟩ := ih (k + 1) f (uI (uI I (z + 8) k 0) (z + 9) k 0) (by omega) (by omega) (by rw [uI_row _ _ _ _ _ (by omega), uI_row _ _ _ _ _ (by omega)]) (fun p hp hu => by
        have hne : p ≠ k := fun e => by rw [e, hb] at hu; cases hu
        obtain ⟨g1, g2⟩ := hI p (by omega) hu
        simp only [uI_get]
        rw [if_neg (by omega), if_neg (by omega), if_neg (by omega), if_neg (by omega)]
        exact ⟨g1, g2⟩)
      refine ⟨I1, e1, e2, fun q q5 q6 q8 q9 => ?_⟩
      rw [e3 q q5 q6 q8 q9, uI_row _ _ _ _ _ q9, uI_row _ _ _ _ _ q8]
    | true =>
      rw [b2_t, if_neg (by decide)]
      obtain ⟨I1, e1, f1⟩ := r_tiresOf_is (I := I) (z := z) tn h (show k < n by omega) hT
      rw [e1, Option.bind_some]
      try dsimp only
      have a1 : I1 (z + 1) = I (z + 1) := f1 _ (by omega) (by omega)
      rw [chk_nI hk6 (by decide)]
      rw [up _ ((uI_row _ _ _ _ _ (by omega)).trans a1), Option.bind_some]
      try dsimp only
      rw [hb, b2_t, if_neg (by decide), nI_cl (by omega)]
      have a2 : uI I1 (z + 8) k (LT (fac (I (z + 1)) n u k tn)) (z + 1) = I (z + 1) := (uI_row _ _ _ _ _ (by omega)).trans a1
      obtain ⟨I2, e2, f2⟩ := r_painsOf_is (I := uI I1 (z + 8) k (LT (fac (I (z + 1)) n u k tn))) (z := z) (n := n) (u := u) (p := k) (L := LP) tn (by rw [a2]; exact h) (by omega) (by rw [a2]; exact hP)
      rw [e2, Option.bind_some, a2]
      try dsimp only
      rw [nI_1]
      obtain ⟨I3, e3, e4, e5⟩ := ih (k + 1) f (uI I2 (z + 9) k (LP (fac (I (z + 1)) n u k tn))) (by omega) (by omega) (by rw [uI_row _ _ _ _ _ (by omega), f2 _ (by omega) (by omega), a2]) (fun p hp hu => by
        by_cases e : p = k
        · subst e
          rw [uI_o _ _ _ _ _ _ (by omega), uI_e, f2 _ (by omega) (by omega), uI_e]
          exact ⟨rfl, rfl⟩
        · obtain ⟨g1, g2⟩ := hI p (by omega) hu
          rw [uI_o _ _ _ _ _ _ (by omega), uI_k _ _ _ _ _ e, f2 _ (by omega) (by omega), f2 _ (by omega) (by omega), uI_k _ _ _ _ _ e, uI_o _ _ _ _ _ _ (by omega), f1 _ (by omega) (by omega), f1 _ (by omega) (by omega)]
          exact ⟨g1, g2⟩)
      refine ⟨I3, e3, e4, fun q q5 q6 q8 q9 => ?_⟩
      rw [e5 q q5 q6 q8 q9, uI_row _ _ _ _ _ q9, f2 _ q5 q6, uI_row _ _ _ _ _ q8, f1 _ q5 q6]
theorem r_sitsDown_is {I : Nat → Nat → Int32} {z u p : Nat} (h : I (z + 1) 32 = nI u) (hu : u < 64) (hp : p < 6) : r_sitsDown I z (nI p) = some (uI (uI (uI I (z + 1) 32 (nI (clr u p))) (z + 1) (53 + p) (I (z + 1) 34)) (z + 1) (59 + p) (I (z + 1) 33)) := by
  unfold r_sitsDown
  simp (disch := omega) only [lit_nI, nI_add, chk_nI, nI_cl]
  rw [h]
  have e := clr_tab u hu p hp
  simp only [lit_nI] at e
  rw [e]
  simp (disch := omega) only [uI_e, uI_o, uI_k]
theorem r_plays_92_go {z n tn u0 : Nat} {A0 : Row} {ls pn : Nat → Int32} (hn : n ≤ 6) (hA1 : A0 1 = nI n) (hu0 : u0 < 64) (h32 : A0 32 = nI u0) : ∀ (j k f : Nat) (I : Nat → Nat → Int32), k + j = n → j < f → I (z + 1) = (mplp ls pn k u0 A0).2 → (∀ p, p < n → ub u0 p = true → I (z + 8) p = ls p ∧ I (z + 9) p = pn p) →
    ∃ I1, r_plays_92 2000 z (nI tn) f (nI (pcn u0 - pcn (mplp ls pn k u0 A0).1)) (nI k) I = some (nI (pcn u0 - pcn (mplp ls pn n u0 A0).1), nI n, I1) ∧ I1 (z + 1) = (mplp ls pn n u0 A0).2 ∧ ∀ q, q ≠ z + 1 → I1 q = I q := by
  intro j
  induction j with
  | zero =>
    intro k f I hk hf hA hI
    obtain ⟨f, rfl⟩ : ∃ f', f = f' + 1 := ⟨f - 1, by omega⟩
    obtain rfl : k = n := by omega
    refine ⟨I, ?_, hA, fun _ _ => rfl⟩
    rw [r_plays_92, show Int32.toNatClampNeg 1 = 1 from rfl, hA, mplp_out (by omega) k hn, hA1, if_pos (nI_le (Nat.le_refl _) (by omega))]
  | succ j ih =>
    intro k f I hk hf hA hI
    obtain ⟨f, rfl⟩ : ∃ f', f = f' + 1 := ⟨f - 1, by omega⟩
    have hk6 : k < 6 := by omega
    have hle := mplp_le (ls := ls) (pn := pn) (A := A0) hu0 k (by omega)
    have h32k := mplp_u (ls := ls) (pn := pn) hu0 h32 k (by omega)
    have hub := mplp_ub (ls := ls) (pn := pn) (A := A0) hu0 k (by omega) k (Nat.le_refl _) hk6
    have h1k : (mplp ls pn k u0 A0).2 1 = nI n := by rw [mplp_out (by omega) k (by omega), hA1]
    have hpl := mplp_pcn (ls := ls) (pn := pn) (A := A0) hu0 k (by omega)
    have hst : mplp ls pn (k + 1) u0 A0 = mpst ls pn k (mplp ls pn k u0 A0).1 (mplp ls pn k u0 A0).2 := rfl
    have ih := ih (k + 1) f
    rw [hst] at ih
    generalize (mplp ls pn k u0 A0).1 = u at *
    generalize (mplp ls pn k u0 A0).2 = A at *
    have hu : u < 64 := by omega
    rw [r_plays_92, show Int32.toNatClampNeg 1 = 1 from rfl, hA, h1k, if_neg (nI_ge (by omega) (by omega)), r_isUp_is (by rw [hA]; exact h32k) hu hk6, Option.bind_some]
    unfold mpst at ih
    rw [hub] at ih
    rw [hub]
    cases hb : ub u0 k with
    | false =>
      rw [hb] at ih
      simp only [b2_f, if_true, nI_1]
      exact ih I (by omega) (by omega) hA hI
    | true =>
      rw [hb] at ih
      obtain ⟨g1, g2⟩ := hI k (by omega) hb
      simp only [b2_t]
      rw [if_neg (by decide)]
      simp (disch := omega) only [lit_nI, nI_add, chk_nI, nI_cl]
      simp (disch := omega) only [uI_e, uI_o, uI_k, hA, g1, g2]
      simp only [if_true] at ih
      have row : (uI (uI I (z + 1) (47 + k) (A (47 + k) + pn k)) (z + 1) (41 + k) (A (41 + k) - ls k)) (z + 1) = upd (upd A (47 + k) (A (47 + k) + pn k)) (41 + k) (A (41 + k) - ls k) := by rw [uI_s, uI_s, hA]
      by_cases hc : A (41 + k) - ls k < 0
      · rw [if_pos hc] at ih
        rw [if_pos (show A (41 + k) - ls k < nI 0 from hc)]
        have hsd := r_sitsDown_is (I := uI (uI (uI I (z + 1) (47 + k) (A (47 + k) + pn k)) (z + 1) (41 + k) (A (41 + k) - ls k)) (z + 1) (41 + k) (nI 0)) (z := z) (u := u) (p := k) (by rw [uI_s, uI_s, uI_s, pk_un (by omega), pk_un (by omega), pk_un (by omega), hA]; exact h32k) hu hk6
        rw [hsd, Option.bind_some]
        have hpc := clr_pcn u hu k hk6
        rw [hub, hb, if_pos rfl] at hpc
        have e9 : nI (pcn u0 - pcn u + 1) = nI (pcn u0 - pcn (clr u k)) := by congr 1; omega
        simp only [e9]
        refine (ih _ (by omega) (by omega) ?_ ?_).imp fun I1 q => ⟨q.1, q.2.1, fun r hr => ?_⟩
        · simp only [uI_s]
          rw [hA]
          congr 1
          · congr 1
            rw [pk_un (by omega), pk_un (by omega), pk_un (by omega)]
          · rw [pk_un (by omega), pk_un (by omega), pk_un (by omega)]
        · intro p hp hu
          simp (disch := omega) only [uI_e, uI_o, uI_k]
          exact hI p hp hu
        · rw [q.2.2 r hr]
          simp only [uI_row _ _ _ _ _ hr]
      · rw [if_neg hc] at ih
        rw [if_neg (show ¬ A (41 + k) - ls k < nI 0 from hc)]
        refine (ih _ (by omega) (by omega) row ?_).imp fun I1 q => ⟨q.1, q.2.1, fun r hr => ?_⟩
        · intro p hp hu
          simp (disch := omega) only [uI_e, uI_o, uI_k]
          exact hI p hp hu
        · rw [q.2.2 r hr]
          simp only [uI_row _ _ _ _ _ hr]
/-- the reference's minute, whole -/
theorem r_plays_is {I : Nat → Nat → Int32} {z n u tn : Nat} {LT LP : Row → Int32} (h : Wf (I (z + 1)) n u) (hT : RT (I (z + 1)) LT) (hP : RP (I (z + 1)) LP) :
    ∃ I1, r_plays 2000 I z (nI tn) = some (nI (pcn u - pcn (mplay LT LP (I (z + 1)) n u tn).1), I1) ∧ I1 (z + 1) = (mplay LT LP (I (z + 1)) n u tn).2 ∧ ∀ q, q ≠ z + 1 → q ≠ z + 5 → q ≠ z + 6 → q ≠ z + 8 → q ≠ z + 9 → I1 q = I q := by
  have hn := h.1
  obtain ⟨I1, e1, e2, e3⟩ := r_plays_2_go (z := z) (tn := tn) h hT hP n 0 2000 I (by omega) (by omega) rfl (fun p hp => absurd hp (Nat.not_lt_zero p))
  have e1 : r_plays_2 2000 z (nI tn) 2000 0 I = some (nI n, I1) := e1
  unfold r_plays
  rw [e1, Option.bind_some]
  have a1 : I1 (z + 1) = I (z + 1) := e3 _ (by omega) (by omega) (by omega) (by omega)
  have row : (uI (uI I1 (z + 1) 33 (I1 (z + 1) 33 + 1)) (z + 1) 34 (I1 (z + 1) 34 + 1)) (z + 1) = mtick (I (z + 1)) := by
    rw [uI_s, uI_s, a1]
    rfl
  obtain ⟨I2, f1, f2, f3⟩ := r_plays_92_go (z := z) (n := n) (tn := tn) (u0 := u) (A0 := mtick (I (z + 1))) (ls := fun p => LT (fac (I (z + 1)) n u p tn)) (pn := fun p => LP (fac (I (z + 1)) n u p tn)) hn (by unfold mtick; rw [pk_un (by decide), pk_un (by decide)]; exact h.2.1) h.u64 (by unfold mtick; rw [pk_un (by decide), pk_un (by decide)]; exact h.2.2.1) n 0 2000 (uI (uI I1 (z + 1) 33 (I1 (z + 1) 33 + 1)) (z + 1) 34 (I1 (z + 1) 34 + 1)) (by omega) (by omega) row (fun p hp hu => by
    simp (disch := omega) only [uI_o]
    exact e2 p hp hu)
  have f1 : r_plays_92 2000 z (nI tn) 2000 (nI (pcn u - pcn u)) 0 _ = _ := f1
  rw [Nat.sub_self] at f1
  have f1 : r_plays_92 2000 z (nI tn) 2000 0 0 (uI (uI I1 (z + 1) 33 (I1 (z + 1) 33 + 1)) (z + 1) 34 (I1 (z + 1) 34 + 1)) = _ := f1
  simp only [show Int32.toNatClampNeg 33 = 33 from rfl, show Int32.toNatClampNeg 34 = 34 from rfl]
  rw [uI_k _ _ _ _ _ (by decide), f1, Option.bind_some]
  exact ⟨I2, rfl, f2, fun q q1 q5 q6 q8 q9 => by rw [f3 q q1, uI_row _ _ _ _ _ q1, uI_row _ _ _ _ _ q1, e3 q q5 q6 q8 q9]⟩
