/-! who is ahead of whom, places, the first -/
def mAh (A : Row) (u q p : Nat) : Bool := if ub u q = ub u p then (if ub u q = true then decide (q < p) else if A (53 + q) = A (53 + p) then decide (q < p) else decide (A (53 + p) < A (53 + q))) else ub u q
def mPc (A : Row) (u p : Nat) : Nat → Nat
  | 0 => 0
  | q + 1 => mPc A u p q + (if q ≠ p ∧ mAh A u q p = true then 1 else 0)
theorem mPc_le (A : Row) (u p : Nat) : ∀ q, mPc A u p q ≤ q
  | 0 => Nat.le_refl _
  | q + 1 => by
    have := mPc_le A u p q
    unfold mPc
    split <;> omega
theorem b2_inj (a b : Bool) : (b2 a = b2 b) = (a = b) := by cases a <;> cases b <;> simp [b2]
theorem isb_b2s (b : Bool) : isb (b2 b) (some (b2 b)) = some (b2 b) := isb_b2 b _
theorem ite_dec (q p : Nat) (hq : q < 2147483648) (hp : p < 2147483648) : (if nI p ≤ nI q then some (0 : Int32) else some 1) = some (b2 (decide (q < p))) := by
  by_cases h : q < p
  · rw [if_neg (nI_ge h hp)]
    simp [h, b2]
  · rw [if_pos (nI_le (by omega) hq)]
    simp [h, b2]
theorem ite_sat (x y : Int32) : (if x ≤ y then some (0 : Int32) else some 1) = some (b2 (decide (y < x))) := by
  by_cases h : y < x
  · rw [if_neg (Int32.not_le.mpr h)]
    simp [h, b2]
  · rw [if_pos (Int32.not_lt.mp h)]
    simp [h, b2]
theorem s_isAhead_is {I : Nat → Nat → Int32} {a n u p q : Nat} {A : Row} {w : Bool} (h : Wf A n u) (hR : RS I a n A w) (hp : p < n) (hq : q < n) : s_isAhead I a (nI q) (nI p) = some (b2 (mAh A u q p)) := by
  have hn := h.1
  have h1 := hR.2.1.trans h.2.2.1
  unfold s_isAhead
  dsimp only
  rw [s_isUp_is h1 h.u64 (by omega), s_isUp_is h1 h.u64 (by omega)]
  unfold mAh
  by_cases e : ub u q = ub u p
  · rw [if_pos (by rw [e]), if_pos e]
    cases hb : ub u q with
    | false =>
      rw [b2_f, if_pos rfl, chk_nI (by omega) (by decide), chk_nI (by omega) (by decide), nI_cl (by omega), nI_cl (by omega), (hR.2.2.2.2 q hq).2.2.2.1, (hR.2.2.2.2 p hp).2.2.2.1, if_neg Bool.false_ne_true]
      by_cases c : A (53 + q) = A (53 + p)
      · rw [if_pos c, if_pos c, ite_dec q p (by omega) (by omega)]
      · rw [if_neg c, if_neg c, ite_sat]
    | true => rw [b2_t, if_neg (show ¬ (1 : Int32) = 0 by decide), if_pos (show true = true from rfl), ite_dec q p (by omega) (by omega)]
  · rw [if_neg (by rw [b2_inj]; exact e), if_neg e, isb_b2s]
theorem r_isAhead_is {I : Nat → Nat → Int32} {z n u p q : Nat} (h : Wf (I (z + 1)) n u) (hp : p < n) (hq : q < n) : r_isAhead I z (nI q) (nI p) = some (b2 (mAh (I (z + 1)) u q p)) := by
  have hn := h.1
  have up : ∀ k, k < n → r_isUp I z (nI k) = some (b2 (ub u k)) := fun k hk => r_isUp_is h.2.2.1 h.u64 (by omega)
  unfold r_isAhead
  rw [up q hq, up p hp]
  simp only [Option.bind_some]
  unfold mAh
  by_cases e : ub u q = ub u p
  · rw [if_pos (by rw [e]), if_pos e]
    cases hb : ub u q with
    | false =>
      simp only [b2_f, if_true]
      rw [if_neg Bool.false_ne_true]
      simp (disch := omega) only [lit_nI, nI_add, chk_nI, nI_cl]
      by_cases c : I (z + 1) (53 + q) = I (z + 1) (53 + p)
      · rw [if_pos c, if_pos c]
        exact ite_dec q p (by omega) (by omega)
      · rw [if_neg c, if_neg c]
        exact ite_sat _ _
    | true =>
      rw [if_neg (show ¬ b2 true = 0 by decide), if_pos (show true = true from rfl), ite_dec q p (by omega) (by omega)]
  · rw [if_neg (by rw [b2_inj]; exact e), if_neg e, isb_b2s]
theorem s_placeOf_go {I : Nat → Nat → Int32} {a n u p : Nat} {A : Row} {w : Bool} (h : Wf A n u) (hR : RS I a n A w) (hp : p < n) : ∀ (j k f : Nat), k + j = n → j < f → s_placeOf_4 2000 I a (nI p) f (nI (mPc A u p k)) (nI k) = some (nI (mPc A u p n), nI n) := by
  have hn := h.1
  intro j
  induction j with
  | zero =>
    intro k f hk hf
    obtain ⟨f, rfl⟩ : ∃ f', f = f' + 1 := ⟨f - 1, by omega⟩
    obtain rfl : k = n := by omega
    rw [s_placeOf_4, hR.1, if_pos (nI_le (Nat.le_refl _) (by omega))]
  | succ j ih =>
    intro k f hk hf
    obtain ⟨f, rfl⟩ : ∃ f', f = f' + 1 := ⟨f - 1, by omega⟩
    have ih := ih (k + 1) f (by omega) (by omega)
    have e0 : mPc A u p (k + 1) = mPc A u p k + (if k ≠ p ∧ mAh A u k p = true then 1 else 0) := rfl
    rw [e0] at ih
    rw [s_placeOf_4, hR.1, if_neg (nI_ge (by omega) (by omega))]
    by_cases e : k = p
    · rw [if_pos (by rw [e]), nI_1]
      rw [if_neg (fun c => c.1 e)] at ih
      exact ih
    · rw [if_neg (fun c => e ((nI_eq (by omega) (by omega)).mp c)), s_isAhead_is h hR hp (by omega), Option.bind_some]
      dsimp only
      cases hb : mAh A u k p with
      | false =>
        rw [hb, if_neg (fun c => by cases c.2)] at ih
        rw [b2_f, if_pos rfl, nI_1]
        exact ih
      | true =>
        rw [hb, if_pos ⟨e, rfl⟩] at ih
        rw [b2_t, if_neg (by decide), nI_1, nI_1]
        exact ih
theorem s_placeOf_is {I : Nat → Nat → Int32} {a n u p : Nat} {A : Row} {w : Bool} (h : Wf A n u) (hR : RS I a n A w) (hp : p < n) : s_placeOf 2000 I a (nI p) = some (nI (mPc A u p n)) := by
  unfold s_placeOf
  have := s_placeOf_go h hR hp n 0 2000 (by omega) (by have := h.1; omega)
  have this : s_placeOf_4 2000 I a (nI p) 2000 0 0 = _ := this
  rw [this]
  rfl
theorem r_placeOf_go {I : Nat → Nat → Int32} {z n u p : Nat} (h : Wf (I (z + 1)) n u) (hp : p < n) : ∀ (j k f : Nat), k + j = n → j < f → r_placeOf_4 2000 I z (nI p) f (nI (mPc (I (z + 1)) u p k)) (nI k) = some (nI (mPc (I (z + 1)) u p n), nI n) := by
  have hn := h.1
  intro j
  induction j with
  | zero =>
    intro k f hk hf
    obtain ⟨f, rfl⟩ : ∃ f', f = f' + 1 := ⟨f - 1, by omega⟩
    obtain rfl : k = n := by omega
    rw [r_placeOf_4, show Int32.toNatClampNeg 1 = 1 from rfl, h.2.1, if_pos (nI_le (Nat.le_refl _) (by omega))]
  | succ j ih =>
    intro k f hk hf
    obtain ⟨f, rfl⟩ : ∃ f', f = f' + 1 := ⟨f - 1, by omega⟩
    have ih := ih (k + 1) f (by omega) (by omega)
    have e0 : mPc (I (z + 1)) u p (k + 1) = mPc (I (z + 1)) u p k + (if k ≠ p ∧ mAh (I (z + 1)) u k p = true then 1 else 0) := rfl
    rw [e0] at ih
    rw [r_placeOf_4, show Int32.toNatClampNeg 1 = 1 from rfl, h.2.1, if_neg (nI_ge (by omega) (by omega))]
    by_cases e : k = p
    · rw [if_pos (by rw [e])]
      rw [if_neg (fun c => c.1 e)] at ih
      dsimp only
      rw [nI_1, Int32.add_zero]
      exact ih
    · rw [if_neg (fun c => e ((nI_eq (by omega) (by omega)).mp c)), r_isAhead_is h hp (by omega), Option.bind_some]
      dsimp only
      cases hb : mAh (I (z + 1)) u k p with
      | false =>
        rw [hb, if_neg (fun c => by cases c.2)] at ih
        rw [b2_f, if_pos rfl, nI_1, Int32.add_zero]
        exact ih
      | true =>
        rw [hb, if_pos ⟨e, rfl⟩] at ih
        rw [b2_t, if_neg (by decide), nI_1, nI_1]
        exact ih
theorem r_placeOf_is {I : Nat → Nat → Int32} {z n u p : Nat} (h : Wf (I (z + 1)) n u) (hp : p < n) : r_placeOf 2000 I z (nI p) = some (nI (mPc (I (z + 1)) u p n)) := by
  unfold r_placeOf
  have := r_placeOf_go h hp n 0 2000 (by omega) (by have := h.1; omega)
  have this : r_placeOf_4 2000 I z (nI p) 2000 0 0 = _ := this
  rw [this]
  rfl
/-! 'ahead' is a strict order in which any two are told apart -/
theorem mAh_irr (A : Row) (u p : Nat) : mAh A u p p = false := by
  unfold mAh
  simp
theorem mAh_tot (A : Row) (u : Nat) {p q : Nat} (h : p ≠ q) : mAh A u q p = !mAh A u p q := by
  unfold mAh
  cases hq : ub u q <;> cases hp : ub u p <;> simp
  · by_cases e : A (53 + q) = A (53 + p)
    · rw [if_pos e, if_pos e.symm]
      by_cases c : q < p
      · have : ¬ p < q := by omega
        simp [c, this]
      · have : p < q := by omega
        simp [c, this]
    · rw [if_neg e, if_neg (fun c => e c.symm)]
      by_cases c : A (53 + p) < A (53 + q)
      · have : ¬ A (53 + q) < A (53 + p) := fun c2 => by rw [i32_lt] at c c2; omega
        simp [c, this]
      · have : A (53 + q) < A (53 + p) := by rw [i32_lt] at *; rw [i32_eq] at e; omega
        simp [c, this]
  · by_cases c : q < p
    · have : ¬ p < q := by omega
      simp [c, this]
    · have : p < q := by omega
      simp [c, this]
theorem mAh_tr (A : Row) (u : Nat) {p q r : Nat} (h1 : mAh A u p q = true) (h2 : mAh A u q r = true) : mAh A u p r = true := by
  unfold mAh at *
  cases hp : ub u p <;> cases hq : ub u q <;> cases hr : ub u r <;> simp [hp, hq, hr] at h1 h2 ⊢
  · by_cases e1 : A (53 + p) = A (53 + q)
    · rw [if_pos e1] at h1
      have h1 : p < q := by simpa using h1
      by_cases e2 : A (53 + q) = A (53 + r)
      · rw [if_pos e2] at h2
        have h2 : q < r := by simpa using h2
        rw [if_pos (e1.trans e2)]
        omega
      · rw [if_neg e2] at h2
        have h2 : A (53 + r) < A (53 + q) := by simpa using h2
        rw [if_neg (fun c => e2 (e1.symm.trans c)), e1]
        simpa using h2
    · rw [if_neg e1] at h1
      have h1 : A (53 + q) < A (53 + p) := by simpa using h1
      by_cases e2 : A (53 + q) = A (53 + r)
      · rw [← e2, if_neg e1]
        simpa using h1
      · rw [if_neg e2] at h2
        have h2 : A (53 + r) < A (53 + q) := by simpa using h2
        have h3 : A (53 + r) < A (53 + p) := by rw [i32_lt] at *; omega
        rw [if_neg (fun c => by rw [c, i32_lt] at h3; omega)]
        simpa using h3
  · omega
/-- the first of the first k: nobody of them is ahead of it -/
def mFs (A : Row) (u : Nat) : Nat → Nat
  | 0 => 0
  | k + 1 => if k = 0 then 0 else if mAh A u k (mFs A u k) = true then k else mFs A u k
theorem mFs_lt (A : Row) (u : Nat) : ∀ k, 0 < k → mFs A u k < k
  | 0, h => by omega
  | k + 1, _ => by
    unfold mFs
    split
    · omega
    · split
      · omega
      · have := mFs_lt A u k (by omega)
        omega
theorem mFs_top (A : Row) (u : Nat) : ∀ k, ∀ q, q < k → mAh A u q (mFs A u k) = false
  | 0, q, h => by omega
  | k + 1, q, h => by
    unfold mFs
    split
    · have : q = 0 := by omega
      rw [this]
      exact mAh_irr A u 0
    · have ih := mFs_top A u k
      have hl := mFs_lt A u k (by omega)
      split
      · next h1 =>
        by_cases e : q = k
        · rw [e]
          exact mAh_irr A u k
        · cases hc : mAh A u q k with
          | false => rfl
          | true => rw [← ih q (by omega)]; exact (mAh_tr A u hc h1).symm ▸ rfl
      · next h1 =>
        by_cases e : q = k
        · rw [e]
          simpa using h1
        · exact ih q (by omega)
theorem mPc_zero {A : Row} {u p : Nat} : ∀ k, mPc A u p k = 0 ↔ ∀ q, q < k → q ≠ p → mAh A u q p = false
  | 0 => ⟨fun _ q h => by omega, fun _ => rfl⟩
  | k + 1 => by
    have ih := mPc_zero (A := A) (u := u) (p := p) k
    unfold mPc
    constructor
    · intro h q hq hne
      have h1 : mPc A u p k = 0 := by omega
      by_cases e : q = k
      · subst e
        cases hc : mAh A u q p with
        | false => rfl
        | true =>
          rw [if_pos ⟨hne, hc⟩] at h
          omega
      · exact ih.mp h1 q (by omega) hne
    · intro h
      rw [ih.mpr (fun q hq hne => h q (by omega) hne)]
      by_cases e : k = p
      · rw [if_neg (fun c => c.1 e)]
      · rw [if_neg (fun c => by rw [h k (by omega) e] at c; cases c.2)]
theorem mPc_first {A : Row} {u n p : Nat} (hp : p < n) : mPc A u p n = 0 ↔ p = mFs A u n := by
  rw [mPc_zero]
  constructor
  · intro h
    have hl := mFs_lt A u n (by omega)
    by_cases e : p = mFs A u n
    · exact e
    · have h1 := h (mFs A u n) hl (fun c => e c.symm)
      have h2 := mFs_top A u n p hp
      rw [mAh_tot A u (p := mFs A u n) (q := p) (fun c => e c.symm), h1] at h2
      cases h2
  · intro e q hq _
    rw [e]
    exact mFs_top A u n q hq
/-- the first; none where there is nobody -/
def mF1 (A : Row) (u n : Nat) : Int32 := if n = 0 then -1 else nI (mFs A u n)
theorem s_first_go {I : Nat → Nat → Int32} {a n u : Nat} {A : Row} {w : Bool} (h : Wf A n u) (hR : RS I a n A w) : ∀ (j k f : Nat), k + j = n → 1 ≤ k → j < f → s_firstInPlace_15 2000 I a f (nI (mFs A u k)) (nI k) = some (nI (mFs A u n), nI n) := by
  have hn := h.1
  intro j
  induction j with
  | zero =>
    intro k f hk h1 hf
    obtain ⟨f, rfl⟩ : ∃ f', f = f' + 1 := ⟨f - 1, by omega⟩
    obtain rfl : k = n := by omega
    rw [s_firstInPlace_15, hR.1, if_pos (nI_le (Nat.le_refl _) (by omega))]
  | succ j ih =>
    intro k f hk h1 hf
    obtain ⟨f, rfl⟩ : ∃ f', f = f' + 1 := ⟨f - 1, by omega⟩
    have ih := ih (k + 1) f (by omega) (by omega) (by omega)
    have hl := mFs_lt A u k (by omega)
    have e0 : mFs A u (k + 1) = if k = 0 then 0 else if mAh A u k (mFs A u k) = true then k else mFs A u k := rfl
    rw [e0, if_neg (by omega)] at ih
    rw [s_firstInPlace_15, hR.1, if_neg (nI_ge (by omega) (by omega)), s_isAhead_is h hR (by omega) (by omega), Option.bind_some]
    dsimp only
    cases hb : mAh A u k (mFs A u k) with
    | false =>
      rw [hb, if_neg (by decide)] at ih
      rw [b2_f, if_pos rfl, nI_1]
      exact ih
    | true =>
      rw [hb, if_pos rfl] at ih
      rw [b2_t, if_neg (by decide), nI_1]
      exact ih
theorem s_first_is {I : Nat → Nat → Int32} {a n u : Nat} {A : Row} {w : Bool} (h : Wf A n u) (hR : RS I a n A w) : s_firstInPlace 2000 I a = some (mF1 A u n) := by
  have hn := h.1
  unfold s_firstInPlace mF1
  rw [hR.1]
  by_cases e : n = 0
  · subst e
    rw [if_pos (show nI 0 = 0 from rfl), if_pos rfl]
    have : s_firstInPlace_15 2000 I a 2000 (-1) 1 = some (-1, 1) := by
      rw [s_firstInPlace_15, hR.1, if_pos (by decide)]
    rw [this]
    rfl
  · rw [if_neg (nI_ne0 (by omega) (by omega)), if_neg e]
    have := s_first_go h hR (n - 1) 1 2000 (by omega) (by omega) (by omega)
    have this : s_firstInPlace_15 2000 I a 2000 0 1 = _ := this
    rw [this]
    rfl
theorem r_first_go {I : Nat → Nat → Int32} {z n u : Nat} (h : Wf (I (z + 1)) n u) : ∀ (j k f : Nat), k + j = n → j < f → (∀ p, p < k → p ≠ mFs (I (z + 1)) u n) → r_firstNow_2 2000 I z f (nI k) = some (if k = n then .inr (nI n) else .inl (nI (mFs (I (z + 1)) u n))) := by
  have hn := h.1
  intro j
  induction j with
  | zero =>
    intro k f hk hf _
    obtain ⟨f, rfl⟩ : ∃ f', f = f' + 1 := ⟨f - 1, by omega⟩
    obtain rfl : k = n := by omega
    rw [r_firstNow_2, show Int32.toNatClampNeg 1 = 1 from rfl, h.2.1, if_pos (nI_le (Nat.le_refl _) (by omega)), if_pos rfl]
  | succ j ih =>
    intro k f hk hf hb
    obtain ⟨f, rfl⟩ : ∃ f', f = f' + 1 := ⟨f - 1, by omega⟩
    rw [r_firstNow_2, show Int32.toNatClampNeg 1 = 1 from rfl, h.2.1, if_neg (nI_ge (by omega) (by omega)), r_placeOf_is h (by omega), Option.bind_some, if_neg (show ¬ k = n by omega)]
    try dsimp only
    by_cases e : k = mFs (I (z + 1)) u n
    · have h0 := (mPc_first (A := I (z + 1)) (u := u) (n := n) (p := k) (by omega)).mpr e
      rw [h0, if_pos (show nI 0 = 0 from rfl), ← e]
    · have h0 : mPc (I (z + 1)) u k n ≠ 0 := fun c => e ((mPc_first (by omega)).mp c)
      have hle := mPc_le (I (z + 1)) u k n
      rw [if_neg (nI_ne0 (by omega) (by omega)), nI_1, ih (k + 1) f (by omega) (by omega) (fun p hp => by
        by_cases e2 : p = k
        · rw [e2]; exact e
        · exact hb p (by omega))]
      have hl := mFs_lt (I (z + 1)) u n (by omega)
      have hgt : mFs (I (z + 1)) u n ≥ k + 1 := by
        have := hb (mFs (I (z + 1)) u n)
        omega
      rw [if_neg (by omega)]
theorem r_first_is {I : Nat → Nat → Int32} {z n u : Nat} (h : Wf (I (z + 1)) n u) : r_firstNow 2000 I z = some (mF1 (I (z + 1)) u n) := by
  unfold r_firstNow mF1
  have := r_first_go h n 0 2000 (by omega) (by have := h.1; omega) (fun p hp => by omega)
  have this : r_firstNow_2 2000 I z 2000 0 = _ := this
  rw [this, Option.bind_some]
  by_cases e : n = 0
  · rw [if_pos e.symm, if_pos e]
  · rw [if_neg (fun c => e c.symm), if_neg e]
