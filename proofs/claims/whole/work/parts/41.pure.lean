/-! wine, evenings, copies of a State -/
def mwin (A : Row) (p : Nat) (v : Int32) : Row := upd A (41 + p) (if A (41 + p) + v ≤ 99 then A (41 + p) + v else 99)
theorem upd_upd (A : Row) (k : Nat) (x y : Int32) : upd (upd A k x) k y = upd A k y := by
  funext j
  by_cases e : j = k
  · subst e
    rw [pk_us, pk_us]
  · rw [pk_un e, pk_un e, pk_un e]
theorem mwin_out {A : Row} {p k : Nat} {v : Int32} (h : k ≠ 41 + p) : mwin A p v k = A k := pk_un h
theorem Wf.win {A : Row} {n u p : Nat} {v : Int32} (h : Wf A n u) : Wf (mwin A p v) n u := by
  have hn := h.1
  exact ⟨hn, by rw [mwin_out (by omega)]; exact h.2.1, by rw [mwin_out (by omega)]; exact h.2.2.1, h.2.2.2.1, h.2.2.2.2.same hn (fun k a b => mwin_out (by omega))⟩
theorem r_drinks_is {I : Nat → Nat → Int32} {z n u p : Nat} {v : Int32} (h : Wf (I (z + 1)) n u) (hp : p < n) : ∃ I1, r_drinks I z (nI p) v = some I1 ∧ I1 (z + 1) = mwin (I (z + 1)) p v ∧ ∀ r, r ≠ z + 1 → I1 r = I r := by
  have hn := h.1
  unfold r_drinks mwin
  rw [show (41 : Int32) + nI p = nI (41 + p) from nI_add 41 p, chk_nI (by omega) (by decide), nI_cl (by omega)]
  dsimp only
  rw [uI_e]
  by_cases c : I (z + 1) (41 + p) + v ≤ 99
  · rw [if_pos c, if_pos c]
    exact ⟨_, rfl, uI_s _ _ _ _, fun r hr => uI_n _ _ _ hr⟩
  · rw [if_neg c, if_neg c]
    exact ⟨_, rfl, by rw [uI_s, uI_s, upd_upd], fun r hr => by rw [uI_n _ _ _ hr, uI_n _ _ _ hr]⟩
theorem imin99 (s : Int32) : imin s 99 = if s ≤ 99 then s else 99 := by
  unfold imin
  by_cases c : s ≤ 99
  · rw [if_pos c, if_neg (Int32.not_lt.mpr c)]
  · rw [if_neg c, if_pos (Int32.not_le.mp c)]
theorem s_win_is {I : Nat → Nat → Int32} {a n u p : Nat} {A : Row} {w : Bool} {v : Int32} (h : Wf A n u) (hR : RS I a n A w) (hp : p < n) : RS (uI I (a + 1) p (imin (I (a + 1) p + v) 99)) a n (mwin A p v) w := by
  have hn := h.1
  obtain ⟨r0, r1, r2, r3, r4⟩ := hR
  refine ⟨?_, ?_, ?_, ?_, fun k hk => ?_⟩
  · rw [uI_o _ _ _ _ _ _ (by omega)]; exact r0
  · rw [uI_o _ _ _ _ _ _ (by omega), mwin_out (by omega)]; exact r1
  · rw [uI_o _ _ _ _ _ _ (by omega), mwin_out (by omega)]; exact r2
  · rw [uI_o _ _ _ _ _ _ (by omega), mwin_out (by omega)]; exact r3
  · obtain ⟨x1, x2, x3, x4, x5, x6⟩ := r4 k hk
    rw [spo_out (A := A) (p := k) (mwin_out (by omega)), mwin_out (k := 47 + k) (by omega), mwin_out (k := 59 + k) (by omega), mwin_out (k := 53 + k) (by omega), mwin_out (k := 35 + k) (by omega)]
    simp (disch := omega) only [uI_o]
    refine ⟨?_, x2, x3, x4, x5, x6⟩
    by_cases e : k = p
    · subst e
      unfold mwin
      rw [uI_e, pk_us, x1, imin99]
    · rw [uI_k _ _ _ _ _ e, mwin_out (by omega)]
      exact x1
/-- an evening: all stand, with their first strengths -/
def meve (A : Row) (n : Nat) : Row := fun k => if k = 32 then nI (2 ^ n - 1) else if k = 33 ∨ k = 34 then 0 else if 41 ≤ k ∧ k < 47 then A (k - 31) else if 47 ≤ k ∧ k < 65 then 0 else A k
def mev (A : Row) (j : Nat) : Row := fun k => if 41 ≤ k ∧ k < 41 + j then A (k - 31) else if (47 ≤ k ∧ k < 47 + j) ∨ (53 ≤ k ∧ k < 53 + j) ∨ (59 ≤ k ∧ k < 59 + j) then 0 else A k
theorem mev_suc {A : Row} {j : Nat} (hj : j < 6) : upd (upd (upd (upd (mev A j) (41 + j) (A (10 + j))) (47 + j) 0) (53 + j) 0) (59 + j) 0 = mev A (j + 1) := by
  funext k
  by_cases e1 : k = 59 + j
  · subst e1
    rw [pk_us]
    unfold mev
    rw [if_neg (by omega), if_pos (by omega)]
  rw [pk_un e1]
  by_cases e2 : k = 53 + j
  · subst e2
    rw [pk_us]
    unfold mev
    rw [if_neg (by omega), if_pos (by omega)]
  rw [pk_un e2]
  by_cases e3 : k = 47 + j
  · subst e3
    rw [pk_us]
    unfold mev
    rw [if_neg (by omega), if_pos (by omega)]
  rw [pk_un e3]
  by_cases e4 : k = 41 + j
  · subst e4
    rw [pk_us]
    unfold mev
    rw [if_pos (by omega)]
    congr 1
    omega
  rw [pk_un e4]
  unfold mev
  by_cases c1 : 41 ≤ k ∧ k < 41 + j
  · rw [if_pos c1, if_pos (by omega)]
  · rw [if_neg c1, if_neg (show ¬ (41 ≤ k ∧ k < 41 + (j + 1)) by omega)]
    by_cases c2 : (47 ≤ k ∧ k < 47 + j) ∨ (53 ≤ k ∧ k < 53 + j) ∨ (59 ≤ k ∧ k < 59 + j)
    · rw [if_pos c2, if_pos (by omega)]
    · rw [if_neg c2, if_neg (by omega)]
theorem r_even_go {z : Nat} {A : Row} : ∀ (j k f : Nat) (I : Nat → Nat → Int32), k + j = 6 → j < f → I (z + 1) = mev A k → ∃ I1, r_evenings_35 2000 z f (nI k) I = some (nI 6, I1) ∧ I1 (z + 1) = mev A 6 ∧ ∀ q, q ≠ z + 1 → I1 q = I q := by
  intro j
  induction j with
  | zero =>
    intro k f I hk hf hI
    obtain ⟨f, rfl⟩ : ∃ f', f = f' + 1 := ⟨f - 1, by omega⟩
    obtain rfl : k = 6 := by omega
    refine ⟨I, ?_, hI, fun _ _ => rfl⟩
    rw [r_evenings_35, if_pos (by decide)]
  | succ j ih =>
    intro k f I hk hf hI
    obtain ⟨f, rfl⟩ : ∃ f', f = f' + 1 := ⟨f - 1, by omega⟩
    rw [r_evenings_35, if_neg (show ¬ (6 : Int32) ≤ nI k from nI_ge (b := 6) (by omega) (by decide))]
    simp (disch := omega) only [lit_nI, nI_add, chk_nI, nI_cl]
    have e10 : I (z + 1) (10 + k) = A (10 + k) := by
      rw [hI]
      unfold mev
      rw [if_neg (by omega), if_neg (by omega)]
    obtain ⟨I1, e1, e2, e3⟩ := ih (k + 1) f (uI (uI (uI (uI I (z + 1) (41 + k) (I (z + 1) (10 + k))) (z + 1) (47 + k) 0) (z + 1) (53 + k) 0) (z + 1) (59 + k) 0) (by omega) (by omega) (by
      simp only [uI_s]
      rw [e10, hI]
      exact mev_suc (by omega))
    exact ⟨I1, e1, e2, fun q hq => by rw [e3 q hq]; simp only [uI_row _ _ _ _ _ hq]⟩
theorem mev_0 {A : Row} : mev A 0 = A := by
  funext k
  unfold mev
  rw [if_neg (by omega), if_neg (by omega)]
theorem r_evenings_is {I : Nat → Nat → Int32} {z n u : Nat} (h : Wf (I (z + 1)) n u) : ∃ I1, r_evenings 2000 I z = some I1 ∧ I1 (z + 1) = meve (I (z + 1)) n ∧ ∀ q, q ≠ z + 1 → I1 q = I q := by
  have hn := h.1
  unfold r_evenings
  simp only [show Int32.toNatClampNeg 32 = 32 from rfl, show Int32.toNatClampNeg 33 = 33 from rfl, show Int32.toNatClampNeg 34 = 34 from rfl, show Int32.toNatClampNeg 1 = 1 from rfl]
  rw [h.2.1, full_tab n (by omega)]
  obtain ⟨I1, e1, e2, e3⟩ := r_even_go (z := z) (A := upd (upd (upd (I (z + 1)) 32 (nI (2 ^ n - 1))) 33 0) 34 0) 6 0 2000 (uI (uI (uI I (z + 1) 32 (nI (2 ^ n - 1))) (z + 1) 33 0) (z + 1) 34 0) (by omega) (by omega) (by
    simp only [uI_s]
    rw [mev_0])
  have e1 : r_evenings_35 2000 z 2000 0 _ = _ := e1
  rw [e1, Option.bind_some]
  refine ⟨I1, rfl, ?_, fun q hq => by rw [e3 q hq]; simp only [uI_row _ _ _ _ _ hq]⟩
  rw [e2]
  funext k
  unfold mev meve
  by_cases c1 : 41 ≤ k ∧ k < 41 + 6
  · rw [if_pos c1, if_neg (by omega), if_neg (by omega), if_pos (by omega)]
    simp (disch := omega) only [pk_un]
  · rw [if_neg c1]
    by_cases c2 : (47 ≤ k ∧ k < 47 + 6) ∨ (53 ≤ k ∧ k < 53 + 6) ∨ (59 ≤ k ∧ k < 59 + 6)
    · rw [if_pos c2, if_neg (by omega), if_neg (by omega), if_neg (by omega), if_pos (by omega)]
    · rw [if_neg c2]
      by_cases d1 : k = 32
      · subst d1
        rw [if_pos rfl]
        simp (disch := omega) only [pk_un, pk_us]
      · rw [if_neg d1]
        by_cases d2 : k = 33 ∨ k = 34
        · rw [if_pos d2]
          rcases d2 with rfl | rfl
          · simp (disch := omega) only [pk_un, pk_us]
          · simp (disch := omega) only [pk_un, pk_us]
        · rw [if_neg d2, if_neg (by omega), if_neg (by omega)]
          simp (disch := omega) only [pk_un]
theorem meve_out {A : Row} {n k : Nat} (hk : ¬ inst k) : meve A n k = A k := by
  unfold inst at hk
  unfold meve
  rw [if_neg (by omega), if_neg (by omega), if_neg (by omega), if_neg (by omega)]
theorem meve_32 {A : Row} {n : Nat} : meve A n 32 = nI (2 ^ n - 1) := if_pos rfl
theorem meve_33 {A : Row} {n : Nat} : meve A n 33 = 0 := rfl
theorem meve_34 {A : Row} {n : Nat} : meve A n 34 = 0 := rfl
theorem meve_41 {A : Row} {n p : Nat} (hp : p < 6) : meve A n (41 + p) = A (10 + p) := by
  unfold meve
  rw [if_neg (by omega), if_neg (by omega), if_pos (by omega)]
  congr 1
  omega
theorem meve_z {A : Row} {n k : Nat} (h1 : 47 ≤ k) (h2 : k < 65) : meve A n k = 0 := by
  unfold meve
  rw [if_neg (by omega), if_neg (by omega), if_neg (by omega), if_pos (by omega)]
theorem pow_pos2 (n : Nat) : 0 < 2 ^ n := Nat.pos_of_ne_zero (by simp)
theorem Wf.eve {A : Row} {n u : Nat} (h : Wf A n u) : Wf (meve A n) n (2 ^ n - 1) := by
  have hn := h.1
  have := pow_pos2 n
  exact ⟨hn, by rw [meve_out (by unfold inst; omega)]; exact h.2.1, meve_32, by omega, h.2.2.2.2.same hn (fun k a b => meve_out (by unfold inst; omega))⟩
/-! a State of the class is taken from another one -/
theorem cpI_get {I : Nat → Nat → Int32} {a0 a1 k q : Nat} (h : q = a1 → k < 6) : cpI I a0 a1 0 0 6 q k = if q = a1 then I a0 k else I q k := by
  by_cases e : q = a1
  · subst e
    rw [if_pos rfl, cpI_s, pk_cpy_in (Nat.zero_le _) (by have := h rfl; omega)]
    congr 1
    omega
  · rw [if_neg e, cpI_n _ e]
theorem cpI_o {I : Nat → Nat → Int32} {a0 a1 k q : Nat} (h : q ≠ a1) : cpI I a0 a1 0 0 6 q k = I q k := by rw [cpI_n _ h]
theorem cpI_e {I : Nat → Nat → Int32} {a0 a1 k : Nat} (h : k < 6) : cpI I a0 a1 0 0 6 a1 k = I a0 k := by rw [cpI_get (fun _ => h), if_pos rfl]
theorem cpI_row {I : Nat → Nat → Int32} {a0 a1 q : Nat} (h : q ≠ a1) : cpI I a0 a1 0 0 6 q = I q := cpI_n _ h
theorem s_copyFrom_is {I : Nat → Nat → Int32} {a b : Nat} (hab : a + 7 ≤ b ∨ b + 7 ≤ a) : ∃ I1, s_copyFrom I a b = some I1 ∧ (∀ k, k < 4 → I1 a k = I b k) ∧ (∀ i k, 1 ≤ i → i ≤ 6 → k < 6 → I1 (a + i) k = I (b + i) k) ∧ ∀ q, ¬ (a ≤ q ∧ q ≤ a + 6) → I1 q = I q := by
  unfold s_copyFrom
  simp only [show Int32.toNatClampNeg 0 = 0 from rfl, show Int32.toNatClampNeg 6 = 6 from rfl]
  refine ⟨_, rfl, fun k hk => ?_, fun i k h1 h2 hk => ?_, fun q hq => ?_⟩
  · simp (disch := omega) only [cpI_o]
    match k, hk with
    | 0, _ => simp (disch := omega) only [uI_e, uI_o, uI_k]
    | 1, _ => simp (disch := omega) only [uI_e, uI_o, uI_k]
    | 2, _ => simp (disch := omega) only [uI_e, uI_o, uI_k]
    | 3, _ => simp (disch := omega) only [uI_e, uI_o, uI_k]
  · match i, h1, h2 with
    | 1, _, _ => simp (disch := omega) only [cpI_o, cpI_e, uI_o]
    | 2, _, _ => simp (disch := omega) only [cpI_o, cpI_e, uI_o]
    | 3, _, _ => simp (disch := omega) only [cpI_o, cpI_e, uI_o]
    | 4, _, _ => simp (disch := omega) only [cpI_o, cpI_e, uI_o]
    | 5, _, _ => simp (disch := omega) only [cpI_o, cpI_e, uI_o]
    | 6, _, _ => simp (disch := omega) only [cpI_o, cpI_e, uI_o]
  · simp (disch := omega) only [cpI_row, uI_row]
theorem RS.copy {I : Nat → Nat → Int32} {a b n : Nat} {A : Row} {w : Bool} (hn : n ≤ 6) (hs : Sp A n) (h : RS I b n A w) (hab : a + 7 ≤ b ∨ b + 7 ≤ a) : ∃ I1, s_copyFrom I a b = some I1 ∧ RS I1 a n A w ∧ ∀ q, ¬ (a ≤ q ∧ q ≤ a + 6) → I1 q = I q := by
  obtain ⟨I1, e1, e2, e3, e4⟩ := s_copyFrom_is (I := I) hab
  obtain ⟨r0, r1, r2, r3, r4⟩ := h
  refine ⟨I1, e1, ⟨by rw [e2 0 (by decide)]; exact r0, by rw [e2 1 (by decide)]; exact r1, by rw [e2 2 (by decide)]; exact r2, by rw [e2 3 (by decide)]; exact r3, fun p hp => ?_⟩, e4⟩
  have := (hs.1 p hp).1
  rw [e3 1 p (by decide) (by decide) (by omega), e3 2 p (by decide) (by decide) (by omega), e3 3 p (by decide) (by decide) (by omega), e3 4 p (by decide) (by decide) (by omega), e3 5 p (by decide) (by decide) (by omega), e3 6 _ (by decide) (by decide) (show spo A p < 6 by omega)]
  exact r4 p hp
theorem s_again_go {a c n : Nat} (hn : n ≤ 6) (hac : a + 7 ≤ c ∨ c + 8 ≤ a) : ∀ (j k f : Nat) (I : Nat → Nat → Int32), k + j = n → j < f → I a 0 = nI n →
    ∃ I1, s_standAgain_24 2000 a c f (nI k) I = some (nI n, I1) ∧ (∀ p, k ≤ p → p < n → I1 (a + 1) p = I (c + 1) p ∧ I1 (a + 2) p = 0 ∧ I1 (a + 3) p = 0 ∧ I1 (a + 4) p = 0) ∧ (∀ p, p < k → I1 (a + 1) p = I (a + 1) p ∧ I1 (a + 2) p = I (a + 2) p ∧ I1 (a + 3) p = I (a + 3) p ∧ I1 (a + 4) p = I (a + 4) p) ∧ ∀ q, ¬ (a + 1 ≤ q ∧ q ≤ a + 4) → I1 q = I q := by
  intro j
  induction j with
  | zero =>
    intro k f I hk hf h0
    obtain ⟨f, rfl⟩ : ∃ f', f = f' + 1 := ⟨f - 1, by omega⟩
    obtain rfl : k = n := by omega
    refine ⟨I, ?_, fun p h1 h2 => by omega, fun _ _ => ⟨rfl, rfl, rfl, rfl⟩, fun _ _ => rfl⟩
    rw [s_standAgain_24, h0, if_pos (nI_le (Nat.le_refl _) (by omega))]
  | succ j ih =>
    intro k f I hk hf h0
    obtain ⟨f, rfl⟩ : ∃ f', f = f' + 1 := ⟨f - 1, by omega⟩
    rw [s_standAgain_24, h0, if_neg (nI_ge (by omega) (by omega)), chk_nI (by omega) (by decide), nI_cl (by omega), nI_1]
    dsimp only
    obtain ⟨I1, e1, e2, e3, e4⟩ := ih (k + 1) f (uI (uI (uI (uI I (a + 1) k (I (c + 1) k)) (a + 2) k 0) (a + 3) k 0) (a + 4) k 0) (by omega) (by omega) (by simp (disch := omega) only [uI_o]; exact h0)
    refine ⟨I1, e1, fun p h1 h2 => ?_, fun p hp => ?_, fun q hq => ?_⟩
    · by_cases e : p = k
      · subst e
        obtain ⟨g1, g2, g3, g4⟩ := e3 p (by omega)
        rw [g1, g2, g3, g4]
        simp (disch := omega) only [uI_e, uI_o]
        exact ⟨by trivial, by trivial, by trivial, by trivial⟩
      · obtain ⟨g1, g2, g3, g4⟩ := e2 p (by omega) h2
        refine ⟨?_, g2, g3, g4⟩
        rw [g1]
        simp (disch := omega) only [uI_o]
    · obtain ⟨g1, g2, g3, g4⟩ := e3 p (by omega)
      rw [g1, g2, g3, g4]
      simp (disch := omega) only [uI_k, uI_o]
      exact ⟨by trivial, by trivial, by trivial, by trivial⟩
    · rw [e4 q hq]
      simp (disch := omega) only [uI_row]
theorem s_again_is {I : Nat → Nat → Int32} {a c n u : Nat} {A : Row} {w : Bool} (h : Wf A n u) (hR : RS I a n A w) (hc : ∀ p, p < 6 → I (c + 1) p = A (10 + p)) (hac : a + 7 ≤ c ∨ c + 8 ≤ a) : ∃ I1, s_standAgain 2000 I a c = some I1 ∧ RS I1 a n (meve A n) true ∧ ∀ q, ¬ (a ≤ q ∧ q ≤ a + 6) → I1 q = I q := by
  have hn := h.1
  obtain ⟨r0, r1, r2, r3, r4⟩ := hR
  unfold s_standAgain
  dsimp only
  rw [r0, full_tab n (by omega)]
  obtain ⟨I1, e1, e2, e3, e4⟩ := s_again_go hn hac n 0 2000 (uI (uI (uI I a 1 (nI (2 ^ n - 1))) a 2 0) a 3 0) (by omega) (by omega) (by simp (disch := omega) only [uI_k]; exact r0)
  have e1 : s_standAgain_24 2000 a c 2000 0 _ = _ := e1
  rw [e1, Option.bind_some]
  refine ⟨I1, rfl, ⟨?_, ?_, ?_, ?_, fun p hp => ?_⟩, fun q hq => ?_⟩
  · rw [e4 a (by omega)]
    simp (disch := omega) only [uI_k]
    exact r0
  · rw [e4 a (by omega)]
    simp (disch := omega) only [uI_k, uI_e]
    rfl
  · rw [e4 a (by omega)]
    simp (disch := omega) only [uI_k, uI_e]
    rfl
  · rw [e4 a (by omega)]
    simp (disch := omega) only [uI_k, uI_e]
    rfl
  · obtain ⟨x1, x2, x3, x4, x5, x6⟩ := r4 p hp
    obtain ⟨g1, g2, g3, g4⟩ := e2 p (Nat.zero_le _) hp
    rw [spo_out (A := A) (p := p) (meve_out (by unfold inst; omega)), meve_out (k := 35 + p) (by unfold inst; omega), meve_41 (by omega), meve_z (k := 47 + p) (by omega) (by omega), meve_z (k := 59 + p) (by omega) (by omega), meve_z (k := 53 + p) (by omega) (by omega), g1, g2, g3, g4, e4 (a + 5) (by omega), e4 (a + 6) (by omega)]
    simp (disch := omega) only [uI_o]
    exact ⟨hc p (by omega), (fun _ => by trivial), by trivial, by trivial, x5, x6⟩
  · rw [e4 q (by omega)]
    simp (disch := omega) only [uI_row]
