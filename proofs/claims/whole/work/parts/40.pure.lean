/-! deeds on the row: sitting down, changing places, wine, evenings; rows kept and brought back -/
def cpy (A W : Row) (d s k : Nat) : Row := fun j => if d ≤ j ∧ j < d + k then W (s + (j - d)) else A j
theorem cpy_in {A W : Row} {d s k j : Nat} (h : d ≤ j ∧ j < d + k) : cpy A W d s k j = W (s + (j - d)) := if_pos h
theorem cpy_out {A W : Row} {d s k j : Nat} (h : ¬ (d ≤ j ∧ j < d + k)) : cpy A W d s k j = A j := if_neg h
theorem cpy_0 {A W : Row} {d s : Nat} : cpy A W d s 0 = A := by
  funext j
  exact cpy_out (by omega)
theorem cpy_suc {A W : Row} {d s k : Nat} {v : Int32} (hv : v = W (s + k)) : upd (cpy A W d s k) (d + k) v = cpy A W d s (k + 1) := by
  funext j
  by_cases e : j = d + k
  · subst e
    rw [pk_us, cpy_in (by omega), hv]
    congr 2
    omega
  · rw [pk_un e]
    by_cases c : d ≤ j ∧ j < d + k
    · rw [cpy_in c, cpy_in (by omega)]
    · rw [cpy_out c, cpy_out (by omega)]
theorem r_keeps_go {z : Nat} : ∀ (j k f : Nat) (I : Nat → Nat → Int32) (W : Row), k + j = 33 → j < f → I (z + 7) = cpy W (I (z + 1)) 0 32 k → ∃ I1, r_keeps_2 2000 z f (nI k) I = some (nI 33, I1) ∧ I1 (z + 7) = cpy W (I (z + 1)) 0 32 33 ∧ ∀ q, q ≠ z + 7 → I1 q = I q := by
  intro j
  induction j with
  | zero =>
    intro k f I W hk hf hI
    obtain ⟨f, rfl⟩ : ∃ f', f = f' + 1 := ⟨f - 1, by omega⟩
    obtain rfl : k = 33 := by omega
    refine ⟨I, ?_, hI, fun _ _ => rfl⟩
    rw [r_keeps_2, if_pos (by decide)]
  | succ j ih =>
    intro k f I W hk hf hI
    obtain ⟨f, rfl⟩ : ∃ f', f = f' + 1 := ⟨f - 1, by omega⟩
    rw [r_keeps_2, if_neg (show ¬ (33 : Int32) ≤ nI k from nI_ge (b := 33) (by omega) (by decide))]
    simp (disch := omega) only [lit_nI, nI_add, chk_nI, nI_cl]
    obtain ⟨I1, e1, e2, e3⟩ := ih (k + 1) f (uI I (z + 7) k (I (z + 1) (32 + k))) W (by omega) (by omega) (by
      rw [uI_s, uI_row _ _ _ _ _ (by omega), hI]
      have := cpy_suc (A := W) (W := I (z + 1)) (d := 0) (s := 32) (k := k) (v := I (z + 1) (32 + k)) rfl
      rw [Nat.zero_add] at this
      exact this)
    rw [uI_row _ _ _ _ _ (by omega)] at e2
    exact ⟨I1, e1, e2, fun q hq => by rw [e3 q hq, uI_row _ _ _ _ _ hq]⟩
theorem r_keeps_is {I : Nat → Nat → Int32} {z : Nat} : ∃ I1, r_keeps 2000 I z = some I1 ∧ (∀ k, k < 33 → I1 (z + 7) k = I (z + 1) (32 + k)) ∧ ∀ q, q ≠ z + 7 → I1 q = I q := by
  obtain ⟨I1, e1, e2, e3⟩ := r_keeps_go (z := z) 33 0 2000 I (I (z + 7)) (by omega) (by omega) cpy_0.symm
  have e1 : r_keeps_2 2000 z 2000 0 I = _ := e1
  refine ⟨I1, ?_, fun k hk => ?_, e3⟩
  · unfold r_keeps
    rw [e1]
    rfl
  · rw [e2, cpy_in (by omega)]
    rfl
/-- the state of a row brought back -/
def mbk (A W : Row) : Row := cpy A W 32 0 33
theorem r_isAgain_go {z : Nat} : ∀ (j k f : Nat) (I : Nat → Nat → Int32) (A : Row), k + j = 33 → j < f → I (z + 1) = cpy A (I (z + 7)) 32 0 k → ∃ I1, r_isAgain_2 2000 z f (nI k) I = some (nI 33, I1) ∧ I1 (z + 1) = cpy A (I (z + 7)) 32 0 33 ∧ ∀ q, q ≠ z + 1 → I1 q = I q := by
  intro j
  induction j with
  | zero =>
    intro k f I W hk hf hI
    obtain ⟨f, rfl⟩ : ∃ f', f = f' + 1 := ⟨f - 1, by omega⟩
    obtain rfl : k = 33 := by omega
    refine ⟨I, ?_, hI, fun _ _ => rfl⟩
    rw [r_isAgain_2, if_pos (by decide)]
  | succ j ih =>
    intro k f I W hk hf hI
    obtain ⟨f, rfl⟩ : ∃ f', f = f' + 1 := ⟨f - 1, by omega⟩
    rw [r_isAgain_2, if_neg (show ¬ (33 : Int32) ≤ nI k from nI_ge (b := 33) (by omega) (by decide))]
    simp (disch := omega) only [lit_nI, nI_add, chk_nI, nI_cl]
    obtain ⟨I1, e1, e2, e3⟩ := ih (k + 1) f (uI I (z + 1) (32 + k) (I (z + 7) k)) W (by omega) (by omega) (by
      rw [uI_s, uI_row _ _ _ _ _ (by omega), hI]
      exact cpy_suc (by rw [Nat.zero_add]))
    rw [uI_row _ _ _ _ _ (by omega)] at e2
    exact ⟨I1, e1, e2, fun q hq => by rw [e3 q hq, uI_row _ _ _ _ _ hq]⟩
theorem r_isAgain_is {I : Nat → Nat → Int32} {z : Nat} : ∃ I1, r_isAgain 2000 I z = some I1 ∧ I1 (z + 1) = mbk (I (z + 1)) (I (z + 7)) ∧ ∀ q, q ≠ z + 1 → I1 q = I q := by
  obtain ⟨I1, e1, e2, e3⟩ := r_isAgain_go (z := z) 33 0 2000 I (I (z + 1)) (by omega) (by omega) cpy_0.symm
  have e1 : r_isAgain_2 2000 z 2000 0 I = _ := e1
  refine ⟨I1, ?_, e2, e3⟩
  unfold r_isAgain
  rw [e1]
  rfl
/-- a row whose state alone was changed, and brought back: it is again as it was -/
theorem mbk_same {A A1 W : Row} (h : ∀ k, ¬ (32 ≤ k ∧ k < 65) → A1 k = A k) (hW : ∀ k, k < 33 → W k = A (32 + k)) : mbk A1 W = A := by
  funext k
  unfold mbk
  by_cases c : 32 ≤ k ∧ k < 32 + 33
  · rw [cpy_in c, hW _ (by omega)]
    congr 1
    omega
  · rw [cpy_out c, h k (by omega)]
/-! sitting down of one's own -/
def mseat (A : Row) (u p : Nat) : Row := upd (upd (upd (upd A 34 (A 34 + 1)) 32 (nI (clr u p))) (53 + p) (A 34 + 1)) (59 + p) (A 33)
theorem mseat_out {A : Row} {u p k : Nat} (hp : p < 6) (hk : ¬ inst k) : mseat A u p k = A k := by
  unfold inst at hk
  unfold mseat
  simp (disch := omega) only [pk_un]
theorem clr_lt2 {u n p : Nat} (hn : n ≤ 6) (hu : u < 2 ^ n) (hp : p < 6) : clr u p < 2 ^ n := Nat.lt_of_le_of_lt (clr_le u (lt64 hn hu) p hp) hu
theorem Wf.seat {A : Row} {n u p : Nat} (h : Wf A n u) (hp : p < n) : Wf (mseat A u p) n (clr u p) := by
  have hn := h.1
  refine ⟨hn, by rw [mseat_out (by omega) (by unfold inst; omega)]; exact h.2.1, ?_, clr_lt2 hn h.2.2.2.1 (by omega), h.2.2.2.2.same hn (fun k a b => mseat_out (by omega) (by unfold inst; omega))⟩
  unfold mseat
  simp (disch := omega) only [pk_un, pk_us]
theorem r_sitsOwn_is {I : Nat → Nat → Int32} {z n u p : Nat} (h : Wf (I (z + 1)) n u) (hp : p < n) : ∃ I1, r_sitsOwn I z (nI p) = some I1 ∧ I1 (z + 1) = mseat (I (z + 1)) u p ∧ ∀ q, q ≠ z + 1 → I1 q = I q := by
  have hn := h.1
  unfold r_sitsOwn
  rw [show Int32.toNatClampNeg 34 = 34 from rfl]
  dsimp only
  rw [r_sitsDown_is (u := u) (by rw [uI_k _ _ _ _ _ (by decide)]; exact h.2.2.1) h.u64 (by omega), Option.bind_some]
  refine ⟨_, rfl, ?_, fun q hq => ?_⟩
  · unfold mseat
    simp only [uI_s]
    simp (disch := omega) only [pk_un, pk_us]
  · simp only [uI_row _ _ _ _ _ hq]
theorem s_seat_is {I : Nat → Nat → Int32} {a n u p : Nat} {A : Row} {w : Bool} (h : Wf A n u) (hR : RS I a n A w) (hp : p < n) : ∃ I1, s_seat I a (nI p) = some I1 ∧ RS I1 a n (mseat A u p) w ∧ ∀ q, ¬ (a ≤ q ∧ q ≤ a + 6) → I1 q = I q := by
  have hn := h.1
  obtain ⟨r0, r1, r2, r3, r4⟩ := hR
  unfold s_seat
  dsimp only
  rw [uI_k _ _ _ _ _ (by decide), r1, h.2.2.1, clr_tab u h.u64 p (by omega), chk_nI (by omega) (by decide), nI_cl (by omega)]
  simp (disch := omega) only [uI_e, uI_o, uI_k]
  refine ⟨_, rfl, ?_, fun q hq => ?_⟩
  · unfold mseat
    refine ⟨?_, ?_, ?_, ?_, fun k hk => ?_⟩
    · simp (disch := omega) only [uI_e, uI_o, uI_k]
      exact r0
    · simp (disch := omega) only [uI_e, uI_o, uI_k, pk_un, pk_us]
    · simp (disch := omega) only [uI_e, uI_o, uI_k, pk_un, pk_us]
      exact r2
    · simp (disch := omega) only [uI_e, uI_o, uI_k, pk_un, pk_us]
      rw [r3]
    · obtain ⟨x1, x2, x3, x4, x5, x6⟩ := r4 k hk
      rw [spo_out (A := A) (p := k) (by simp (disch := omega) only [pk_un])]
      by_cases e : k = p
      · subst e
        simp (disch := omega) only [uI_e, uI_o, uI_k, pk_un, pk_us]
        exact ⟨x1, x2, r2, by rw [r3], x5, x6⟩
      · simp (disch := omega) only [uI_e, uI_o, uI_k, pk_un, pk_us]
        exact ⟨x1, x2, x3, x4, x5, x6⟩
  · simp (disch := omega) only [uI_row]
/-! two change places -/
def mchg (A : Row) (p q : Nat) : Row := upd (upd A (35 + p) (A (35 + q))) (35 + q) (A (35 + p))
theorem mchg_out {A : Row} {p q k : Nat} (h : k ≠ 35 + p ∧ k ≠ 35 + q) : mchg A p q k = A k := by
  unfold mchg
  simp (disch := omega) only [pk_un]
theorem mchg_p {A : Row} {p q : Nat} (h : p ≠ q) : mchg A p q (35 + p) = A (35 + q) := by
  unfold mchg
  simp (disch := omega) only [pk_un, pk_us]
theorem mchg_q {A : Row} {p q : Nat} : mchg A p q (35 + q) = A (35 + p) := by
  unfold mchg
  exact pk_us
theorem spo_chg {A : Row} {p q : Nat} (hpq : p ≠ q) (k : Nat) : spo (mchg A p q) k = if k = p then spo A q else if k = q then spo A p else spo A k := by
  unfold spo
  by_cases e1 : k = p
  · subst e1
    rw [if_pos rfl, mchg_p hpq]
  · rw [if_neg e1]
    by_cases e2 : k = q
    · subst e2
      rw [if_pos rfl, mchg_q]
    · rw [if_neg e2, mchg_out (by omega)]
theorem Sp.chg {A : Row} {n p q : Nat} (h : Sp A n) (hp : p < n) (hq : q < n) (hpq : p ≠ q) : Sp (mchg A p q) n := by
  refine ⟨fun k hk => ?_, fun k hk j hj e => ?_, fun s hs => ?_⟩
  · rw [spo_chg hpq]
    by_cases e1 : k = p
    · subst e1
      rw [if_pos rfl, mchg_p hpq]
      exact h.1 q hq
    · rw [if_neg e1]
      by_cases e2 : k = q
      · subst e2
        rw [if_pos rfl, mchg_q]
        exact h.1 p hp
      · rw [if_neg e2, mchg_out (by omega)]
        exact h.1 k hk
  · rw [spo_chg hpq, spo_chg hpq] at e
    have i := h.2.1
    have a1 := i k hk j hj
    have a2 := i k hk p hp
    have a3 := i k hk q hq
    have a4 := i j hj p hp
    have a5 := i j hj q hq
    have a6 := i p hp q hq
    by_cases k1 : k = p
    · rw [if_pos k1] at e
      by_cases j1 : j = p
      · omega
      · rw [if_neg j1] at e
        by_cases j2 : j = q
        · rw [if_pos j2] at e
          exact absurd (a6 e.symm) hpq
        · rw [if_neg j2] at e
          exact absurd (a5 e.symm) j2
    · rw [if_neg k1] at e
      by_cases k2 : k = q
      · rw [if_pos k2] at e
        by_cases j1 : j = p
        · rw [if_pos j1] at e
          exact absurd (a6 e) hpq
        · rw [if_neg j1] at e
          by_cases j2 : j = q
          · omega
          · rw [if_neg j2] at e
            exact absurd (a4 e.symm) j1
      · rw [if_neg k2] at e
        by_cases j1 : j = p
        · rw [if_pos j1] at e
          exact absurd (a3 e) k2
        · rw [if_neg j1] at e
          by_cases j2 : j = q
          · rw [if_pos j2] at e
            exact absurd (a2 e) k1
          · rw [if_neg j2] at e
            exact a1 e
  · obtain ⟨k, hk, e⟩ := h.2.2 s hs
    by_cases e1 : k = p
    · subst e1
      exact ⟨q, hq, by rw [spo_chg hpq, if_neg (fun c => hpq c.symm), if_pos rfl]; exact e⟩
    · by_cases e2 : k = q
      · subst e2
        exact ⟨p, hp, by rw [spo_chg hpq, if_pos rfl]; exact e⟩
      · exact ⟨k, hk, by rw [spo_chg hpq, if_neg e1, if_neg e2]; exact e⟩
theorem Wf.chg {A : Row} {n u p q : Nat} (h : Wf A n u) (hp : p < n) (hq : q < n) (hpq : p ≠ q) : Wf (mchg A p q) n u := by
  have hn := h.1
  exact ⟨hn, by rw [mchg_out (by omega)]; exact h.2.1, by rw [mchg_out (by omega)]; exact h.2.2.1, h.2.2.2.1, h.2.2.2.2.chg hp hq hpq⟩
theorem r_changes_is {I : Nat → Nat → Int32} {z n u p q : Nat} (h : Wf (I (z + 1)) n u) (hp : p < n) (hq : q < n) : ∃ I1, r_changes I z (nI p) (nI q) = some I1 ∧ I1 (z + 1) = mchg (I (z + 1)) p q ∧ ∀ r, r ≠ z + 1 → I1 r = I r := by
  have hn := h.1
  unfold r_changes
  simp (disch := omega) only [lit_nI, nI_add, chk_nI, nI_cl]
  refine ⟨_, rfl, ?_, fun r hr => ?_⟩
  · simp only [uI_s]
    rfl
  · simp only [uI_row _ _ _ _ _ hr]
theorem s_exchange_is {I : Nat → Nat → Int32} {a n u p q : Nat} {A : Row} {w : Bool} (h : Wf A n u) (hR : RS I a n A w) (hp : p < n) (hq : q < n) (hpq : p ≠ q) : ∃ I1, s_exchange I a (nI p) (nI q) = some I1 ∧ RS I1 a n (mchg A p q) w ∧ ∀ r, ¬ (a ≤ r ∧ r ≤ a + 6) → I1 r = I r := by
  have hn := h.1
  obtain ⟨r0, r1, r2, r3, r4⟩ := hR
  have sp := h.2.2.2.2
  have cp := (r4 p hp).2.2.2.2.1
  have cq := (r4 q hq).2.2.2.2.1
  have lp := sp.1 p hp
  have lq := sp.1 q hq
  rw [lp.2] at cp
  rw [lq.2] at cq
  unfold s_exchange
  rw [chk_nI (by omega) (by decide), chk_nI (by omega) (by decide), nI_cl (by omega), nI_cl (by omega)]
  simp (disch := omega) only [uI_e, uI_o, uI_k, cp, cq, chk_nI, nI_cl]
  refine ⟨_, rfl, ⟨?_, ?_, ?_, ?_, fun k hk => ?_⟩, fun r hr => ?_⟩
  · simp (disch := omega) only [uI_o]
    exact r0
  · simp (disch := omega) only [uI_o]
    rw [mchg_out (by omega)]
    exact r1
  · simp (disch := omega) only [uI_o]
    rw [mchg_out (by omega)]
    exact r2
  · simp (disch := omega) only [uI_o]
    rw [mchg_out (by omega)]
    exact r3
  · obtain ⟨x1, x2, x3, x4, x5, x6⟩ := r4 k hk
    have i := sp.2.1
    have a1 := i k hk p hp
    have a2 := i k hk q hq
    have a3 := i p hp q hq
    rw [mchg_out (show 41 + k ≠ 35 + p ∧ 41 + k ≠ 35 + q by omega), mchg_out (show 47 + k ≠ 35 + p ∧ 47 + k ≠ 35 + q by omega), mchg_out (show 59 + k ≠ 35 + p ∧ 59 + k ≠ 35 + q by omega), mchg_out (show 53 + k ≠ 35 + p ∧ 53 + k ≠ 35 + q by omega), spo_chg hpq]
    simp (disch := omega) only [uI_o (a := a + 5) (q := a + 1), uI_o (a := a + 6) (q := a + 1), uI_o (a := a + 5) (q := a + 2), uI_o (a := a + 6) (q := a + 2), uI_o (a := a + 5) (q := a + 3), uI_o (a := a + 6) (q := a + 3), uI_o (a := a + 5) (q := a + 4), uI_o (a := a + 6) (q := a + 4), uI_o (a := a + 6) (q := a + 5)]
    by_cases e1 : k = p
    · subst e1
      rw [if_pos rfl, mchg_p hpq]
      simp (disch := omega) only [uI_e, uI_k, uI_o]
      exact ⟨x1, x2, x3, x4, lq.2.symm, by trivial⟩
    · rw [if_neg e1]
      by_cases e2 : k = q
      · subst e2
        rw [if_pos rfl, mchg_q]
        simp (disch := omega) only [uI_e, uI_k, uI_o]
        exact ⟨x1, x2, x3, x4, lp.2.symm, by trivial⟩
      · rw [if_neg e2, mchg_out (by omega)]
        simp (disch := omega) only [uI_e, uI_k, uI_o]
        exact ⟨x1, x2, x3, x4, x5, x6⟩
  · simp (disch := omega) only [uI_row]
