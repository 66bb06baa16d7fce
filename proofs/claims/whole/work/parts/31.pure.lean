/-! the court as one row of numbers (the reference's): facts, a minute -/
abbrev Row := Nat → Int32
def near (a b : Int32) : Bool := decide (-1 ≤ a - b) && decide (a - b ≤ 1)
def mBes (A : Row) (u p : Nat) : Nat → Nat
  | 0 => 0
  | q + 1 => mBes A u p q + (if ub u q && near (A (35 + p)) (A (35 + q)) && !(q == p) then 1 else 0)
def fac (A : Row) (n u p t : Nat) : Row := fun k => if k = 0 then nI p else if k = 1 then A (16 + p) else if k = 2 then A (41 + p) else if k = 3 then nI t else if k = 4 then nI (mBes A u p n) else if k = 5 then nI (pcn u) else imin (A 33) 99
/-- a well-made row: how many people, who stands, where: each on a spot of its own -/
def spo (A : Row) (p : Nat) : Nat := (A (35 + p)).toNatClampNeg
def Sp (A : Row) (n : Nat) : Prop := (∀ p, p < n → spo A p < n ∧ A (35 + p) = nI (spo A p)) ∧ (∀ p, p < n → ∀ q, q < n → spo A p = spo A q → p = q) ∧ ∀ s, s < n → ∃ p, p < n ∧ spo A p = s
theorem Sp.same {A A' : Row} {n : Nat} (hn : n ≤ 6) (h : Sp A n) (he : ∀ k, 35 ≤ k → k < 41 → A' k = A k) : Sp A' n := by
  have e : ∀ p, p < n → spo A' p = spo A p := fun p hp => by unfold spo; rw [he _ (by omega) (by omega)]
  refine ⟨fun p hp => ?_, fun p hp q hq => ?_, fun s hs => ?_⟩
  · rw [e p hp, he _ (by omega) (by omega)]
    exact h.1 p hp
  · rw [e p hp, e q hq]
    exact h.2.1 p hp q hq
  · obtain ⟨p, hp, hs⟩ := h.2.2 s hs
    exact ⟨p, hp, by rw [e p hp]; exact hs⟩
def Wf (A : Row) (n u : Nat) : Prop := n ≤ 6 ∧ A 1 = nI n ∧ A 32 = nI u ∧ u < 2 ^ n ∧ Sp A n
theorem Wf.u64 {A : Row} {n u : Nat} (h : Wf A n u) : u < 64 := lt64 h.1 h.2.2.2.1
theorem mBes_le (A : Row) (u p : Nat) : ∀ q, mBes A u p q ≤ q
  | 0 => Nat.le_refl _
  | q + 1 => by
    have := mBes_le A u p q
    unfold mBes
    split <;> omega
theorem near_in (a b : Int32) : r_within (Int32.toInt64 (a - b)) (-1) 1 = b2 (near a b) := by
  have h1 : (1 : Int64) = Int32.toInt64 1 := by decide
  have h2 : (-1 : Int64) = Int32.toInt64 (-1) := by decide
  rw [h2, h1, within_i]
  rfl
theorem besideOf_go {I : Nat → Nat → Int32} {z n u p : Nat} (h : Wf (I (z + 1)) n u) (hp : p < n) : ∀ (j k f : Nat), k + j = n → j < f → r_besideOf_4 2000 I z (nI p) f (nI (mBes (I (z + 1)) u p k)) (nI k) = some (nI (mBes (I (z + 1)) u p n), nI n) := by
  have hn := h.1
  intro j
  induction j with
  | zero =>
    intro k f hk hf
    obtain ⟨f, rfl⟩ : ∃ f', f = f' + 1 := ⟨f - 1, by omega⟩
    obtain rfl : k = n := by omega
    unfold r_besideOf_4
    rw [show Int32.toNatClampNeg 1 = 1 from rfl, h.2.1, if_pos (nI_le (Nat.le_refl _) (by omega))]
  | succ j ih =>
    intro k f hk hf
    obtain ⟨f, rfl⟩ : ∃ f', f = f' + 1 := ⟨f - 1, by omega⟩
    unfold r_besideOf_4
    rw [show Int32.toNatClampNeg 1 = 1 from rfl, h.2.1, if_neg (nI_ge (by omega) (by omega)), r_isUp_is h.2.2.1 h.u64 (by omega), Option.bind_some]
    have e0 : mBes (I (z + 1)) u p (k + 1) = mBes (I (z + 1)) u p k + (if ub u k && near (I (z + 1) (35 + p)) (I (z + 1) (35 + k)) && !(k == p) then 1 else 0) := rfl
    have ih := ih (k + 1) f (by omega) (by omega)
    rw [e0] at ih
    simp (disch := omega) only [lit_nI, nI_add, chk_nI, nI_cl, b2_n0, near_in, nI_EQ]
    cases hb : ub u k with
    | false =>
      simp only [hb, Bool.false_and, Bool.false_eq_true, if_false, Nat.add_zero] at ih
      simp only [if_true, Nat.add_zero]
      exact ih
    | true =>
      simp only [hb, Bool.true_and] at ih
      simp only [Bool.true_eq_false, if_false]
      cases hc : near (I (z + 1) (35 + p)) (I (z + 1) (35 + k)) with
      | false =>
        simp only [hc, Bool.false_and, Bool.false_eq_true, if_false, Nat.add_zero] at ih
        simp only [if_true, Nat.add_zero]
        exact ih
      | true =>
        simp only [hc, Bool.true_and] at ih
        simp only [Bool.true_eq_false, if_false]
        by_cases e : k = p
        · subst e
          simp only [beq_self_eq_true, Bool.not_true, Bool.false_eq_true, if_false, Nat.add_zero] at ih
          simp only [if_true, Nat.add_zero]
          exact ih
        · have e4 : (k == p) = false := by simp [e]
          simp only [e4, Bool.not_false, if_true] at ih
          rw [if_neg e]
          exact ih
theorem r_besideOf_is {I : Nat → Nat → Int32} {z n u p : Nat} (h : Wf (I (z + 1)) n u) (hp : p < n) : r_besideOf 2000 I z (nI p) = some (nI (mBes (I (z + 1)) u p n)) := by
  unfold r_besideOf
  have := besideOf_go h hp n 0 2000 (by omega) (by have := h.1; omega)
  rw [show (0 : Int32) = nI (mBes (I (z + 1)) u p 0) from rfl]
  rw [show nI (mBes (I (z + 1)) u p 0) = nI 0 from rfl] at this ⊢
  rw [this]
  rfl
