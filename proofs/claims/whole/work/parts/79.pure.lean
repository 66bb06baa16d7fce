/-! music: what is asked of a row of tunes: that one stands alone, that some sit in order -/
def mout (o : Nat → Nat) (u : Nat) (A : Row) : Nat → Nat → Bool
  | 0, _ => false
  | j + 1, i => (!ub u (o i) && (ub u (o (i - 1)) || !decide (A (53 + o (i - 1)) < A (53 + o i)))) || mout o u A j (i + 1)
def msit (o : Nat → Nat) (u : Nat) : Nat → Nat → Bool
  | 0, _ => true
  | j + 1, i => !ub u (o i) && msit o u j (i + 1)
def mmus (o : Nat → Nat) (u : Nat) (A : Row) : Nat → Nat → Bool
  | 0, _ => true
  | j + 1, i => !ub u (o i) && (decide (i = 0) || decide (A (53 + o (i - 1)) < A (53 + o i))) && mmus o u A j (i + 1)
theorem mout_s {o : Nat → Nat} {u : Nat} {A : Row} {j i : Nat} : mout o u A (j + 1) i = ((!ub u (o i) && (ub u (o (i - 1)) || !decide (A (53 + o (i - 1)) < A (53 + o i)))) || mout o u A j (i + 1)) := rfl
theorem msit_s {o : Nat → Nat} {u j i : Nat} : msit o u (j + 1) i = (!ub u (o i) && msit o u j (i + 1)) := rfl
theorem mmus_s {o : Nat → Nat} {u : Nat} {A : Row} {j i : Nat} : mmus o u A (j + 1) i = (!ub u (o i) && (decide (i = 0) || decide (A (53 + o (i - 1)) < A (53 + o i))) && mmus o u A j (i + 1)) := rfl
theorem mmus_go (o : Nat → Nat) (u : Nat) (A : Row) : ∀ (j i : Nat), 1 ≤ i → ub u (o (i - 1)) = false → mmus o u A j i = (!mout o u A j i && msit o u j i)
  | 0, i, _, _ => rfl
  | j + 1, i, hi, hb => by
    rw [mmus_s, mout_s, msit_s]
    rw [hb, decide_eq_false (show ¬ i = 0 by omega)]
    cases hc : ub u (o i) with
    | true => simp
    | false =>
      rw [mmus_go o u A j (i + 1) (by omega) (by rw [Nat.add_sub_cancel]; exact hc)]
      cases decide (A (53 + o (i - 1)) < A (53 + o i)) <;> cases mout o u A j (i + 1) <;> cases msit o u j (i + 1) <;> rfl
theorem mmus_is (o : Nat → Nat) (u : Nat) (A : Row) (m : Nat) : mmus o u A (m + 1) 0 = (!mout o u A m 1 && msit o u (m + 1) 0) := by
  rw [mmus_s, msit_s]
  cases hc : ub u (o 0) with
  | true => simp
  | false =>
    rw [mmus_go o u A m (0 + 1) (by omega) hc]
    cases mout o u A m (0 + 1) <;> cases msit o u m (0 + 1) <;> rfl
def prO (o : Nat → Nat) (m : Nat) : Nat → Row → Bool := fun u A => mout o u A m 1
def fiO (o : Nat → Nat) (m : Nat) : Nat → Row → Bool := fun u A => msit o u (m + 1) 0
section
variable {LT LP : Row → Int32} {n tn x z : Nat}
theorem mono_O {o : Nat → Nat} {m : Nat} (hn : n ≤ 6) (ho : ∀ i, i < m + 1 → o i < n) : Mono LT LP n (prO o m) := fun e u A t he hW hP hE h => by
  have key : ∀ (j i : Nat), 1 ≤ i → i + j = m + 1 → mout o u A j i = true → mout o (mplay LT LP A n u t).1 (mplay LT LP A n u t).2 j i = true := by
    intro j
    induction j with
    | zero => intro i _ _ h; cases h
    | succ j ih =>
      intro i hi hij h
      have o1 := ho i (by omega)
      have o2 := ho (i - 1) (by omega)
      rw [mout_s] at h ⊢
      rw [Bool.or_eq_true] at h ⊢
      rcases h with h | h
      · left
        rw [Bool.and_eq_true, Bool.or_eq_true] at h ⊢
        obtain ⟨h1, h2⟩ := h
        have d1 : ub u (o i) = false := by
          cases hh : ub u (o i) with
          | false => rfl
          | true => rw [hh] at h1; cases h1
        have d2 : ub (mplay LT LP A n u t).1 (o i) = false := by
          cases hh : ub (mplay LT LP A n u t).1 (o i) with
          | false => rfl
          | true => rw [mplay_up hn hW.u64 (by omega) hh] at d1; cases d1
        refine ⟨by rw [d2]; rfl, ?_⟩
        cases hf : ub (mplay LT LP A n u t).1 (o (i - 1)) with
        | true => exact Or.inl rfl
        | false =>
          right
          have s1 : (mplay LT LP A n u t).2 (53 + o i) = A (53 + o i) := by
            rw [mplay_sat hn hW.u64 (show o i < 6 by omega), if_neg (fun cc => by rw [d1] at cc; cases cc.1)]
          rw [s1, mplay_sat hn hW.u64 (show o (i - 1) < 6 by omega), hf]
          cases hg : ub u (o (i - 1)) with
          | true =>
            rw [if_pos ⟨rfl, rfl⟩]
            obtain ⟨s, a1, a2, -⟩ := hE.2 (o i) o1
            rw [a2, hE.1, nI_1, decide_eq_false (nI_nlt (a := e + 1) (b := s) (by omega) (by omega))]
            rfl
          | false =>
            rw [if_neg (fun cc => by cases cc.1)]
            rcases h2 with h2 | h2
            · rw [hg] at h2; cases h2
            · exact h2
      · exact Or.inr (ih (i + 1) (by omega) (by omega) h)
  exact key m 1 (Nat.le_refl _) (by omega) h
theorem askc_A {I : Nat → Nat → Int32} {p : Nat} (hp : p < n) (h5 : I (x + 214) 5 = 1) (h6 : I (x + 214) 6 = nI p) : AskC I x n (prA p) (fiA p) := fun I' e1 e2 a u A hR hW => by
  have hn := hW.1
  have hu := hW.u64
  have h1 : I' a 1 = nI u := hR.2.1.trans hW.2.2.1
  have h2p : 2 ^ p < 64 := Nat.pow_lt_pow_right (by decide) (show p < 6 by omega)
  refine Or.inl ⟨by rw [e1 5 (by decide)]; exact h5, ?_, ?_⟩
  · rw [e1 6 (by decide), h6, s_isUp_is h1 hu (by omega)]
    unfold prA
    rw [Bool.not_not]
  · rw [e1 6 (by decide), h6, h1, bit_tab p (by omega)]
    unfold fiA
    rw [decide_eq_true_iff]
    exact nI_eq (by omega) (by omega)
theorem pow_ub : ∀ p, p < 6 → ub (2 ^ p) p = true := by decide +kernel
theorem asks_A {Iz : Nat → Nat → Int32} {Jz : Nat → Nat → Int64} {p : Nat} (hp : p < n) : Asks Iz Jz z n tn LT LP (nI p) (fun u A => !prA p u A && fiA p u A) := fun Iz' hF u e hR => by
  have hn := hR.1.1
  have hu := hR.1.u64
  have h2p : 2 ^ p < 64 := Nat.pow_lt_pow_right (by decide) (show p < 6 by omega)
  unfold r_isMusic
  rw [if_neg (show ¬ nI p = -1 from fun cc => by
    have := i32_eq.mp cc
    rw [nI_toInt (by omega)] at this
    have k1 : (-1 : Int32).toInt = -1 := rfl
    omega), show Int32.toNatClampNeg 32 = 32 from rfl]
  have eqv : (Iz' (z + 1) 32 = (1 <<< (nI p &&& 31))) ↔ u = 2 ^ p := by
    rw [hR.1.2.2.1, bit_tab p (by omega)]
    exact nI_eq (by omega) (by omega)
  unfold prA fiA
  try dsimp only
  by_cases c1 : u = 2 ^ p
  · rw [if_pos (eqv.mpr c1), c1, pow_ub p (by omega), decide_eq_true rfl]
    rfl
  · rw [if_neg (fun cc => c1 (eqv.mp cc)), decide_eq_false c1, Bool.and_false]
    rfl
theorem out_go {I : Nat → Nat → Int32} {a u m : Nat} {A : Row} {o : Nat → Nat} (hW : Wf A n u) (hR : RS I a n A false) (hm : m < 6) (h8 : I (x + 214) 8 = nI (m + 1)) (ho : ∀ i, i < m + 1 → o i < n ∧ I (x + 218) i = nI (o i)) : ∀ (j i f : Nat), 1 ≤ i → i + j = m + 1 → j < f → mu_isOutOfOrder_2 2000 I x a f (nI i) = some (if mout o u A j i = true then .inl 1 else .inr (nI (m + 1))) := by
  have hn := hW.1
  have hu := hW.u64
  have h1 : I a 1 = nI u := hR.2.1.trans hW.2.2.1
  intro j
  induction j with
  | zero =>
    intro i f hi hij hf
    obtain ⟨f, rfl⟩ : ∃ f', f = f' + 1 := ⟨f - 1, by omega⟩
    obtain rfl : i = m + 1 := by omega
    rw [mu_isOutOfOrder_2, h8, if_pos (nI_le (Nat.le_refl _) (by omega))]
    rfl
  | succ j ih =>
    intro i f hi hij hf
    obtain ⟨f, rfl⟩ : ∃ f', f = f' + 1 := ⟨f - 1, by omega⟩
    obtain ⟨o1, p1⟩ := ho i (by omega)
    obtain ⟨o2, p2⟩ := ho (i - 1) (by omega)
    rw [mu_isOutOfOrder_2, h8, if_neg (nI_ge (by omega) (by omega)), show nI i - 1 = nI (i - 1) from nI_SB (b := 1) hi, chk_nI (show i - 1 < 6 by omega) (by decide), chk_nI (show i < 6 by omega) (by decide), nI_cl (show i - 1 < 2147483648 by omega), nI_cl (show i < 2147483648 by omega)]
    try dsimp only
    rw [p1, p2, s_isUp_is h1 hu (show o i < 6 by omega), s_isUp_is h1 hu (show o (i - 1) < 6 by omega), chk_nI (show o (i - 1) < 6 by omega) (by decide), chk_nI (show o i < 6 by omega) (by decide), nI_cl (show o (i - 1) < 2147483648 by omega), nI_cl (show o i < 2147483648 by omega), (hR.2.2.2.2 (o i) o1).2.2.2.1, (hR.2.2.2.2 (o (i - 1)) o2).2.2.2.1, nI_1, ih (i + 1) f (by omega) (by omega) (by omega)]
    rw [mout_s]
    cases ub u (o i) with
    | true => rw [if_neg (show ¬ b2 true = 0 by decide)]; simp
    | false =>
      rw [if_pos (show b2 false = 0 from rfl)]
      cases ub u (o (i - 1)) with
      | true => rw [if_neg (show ¬ b2 true = 0 by decide)]; simp
      | false =>
        rw [if_pos (show b2 false = 0 from rfl)]
        by_cases c1 : A (53 + o (i - 1)) < A (53 + o i)
        · rw [if_pos c1, decide_eq_true c1]; simp
        · rw [if_neg c1, decide_eq_false c1]; simp
theorem sit_go {I : Nat → Nat → Int32} {a u m : Nat} {A : Row} {o : Nat → Nat} (hW : Wf A n u) (hR : RS I a n A false) (hm : m < 6) (h8 : I (x + 214) 8 = nI (m + 1)) (ho : ∀ i, i < m + 1 → o i < n ∧ I (x + 218) i = nI (o i)) : ∀ (j i f : Nat), i + j = m + 1 → j < f → mu_allSit_2 2000 I x a f (nI i) = some (if msit o u j i = true then .inr (nI (m + 1)) else .inl 0) := by
  have hn := hW.1
  have hu := hW.u64
  have h1 : I a 1 = nI u := hR.2.1.trans hW.2.2.1
  intro j
  induction j with
  | zero =>
    intro i f hij hf
    obtain ⟨f, rfl⟩ : ∃ f', f = f' + 1 := ⟨f - 1, by omega⟩
    obtain rfl : i = m + 1 := by omega
    rw [mu_allSit_2, h8, if_pos (nI_le (Nat.le_refl _) (by omega))]
    rfl
  | succ j ih =>
    intro i f hij hf
    obtain ⟨f, rfl⟩ : ∃ f', f = f' + 1 := ⟨f - 1, by omega⟩
    obtain ⟨o1, p1⟩ := ho i (by omega)
    rw [mu_allSit_2, h8, if_neg (nI_ge (by omega) (by omega)), chk_nI (show i < 6 by omega) (by decide), nI_cl (show i < 2147483648 by omega), p1, s_isUp_is h1 hu (show o i < 6 by omega), nI_1, ih (i + 1) f (by omega) (by omega)]
    rw [msit_s]
    cases ub u (o i) with
    | true => rw [if_neg (show ¬ b2 true = 0 by decide)]; simp
    | false => rw [if_pos (show b2 false = 0 from rfl)]; simp
theorem askc_O {I : Nat → Nat → Int32} {m : Nat} {o : Nat → Nat} (hm : m < 6) (h5 : I (x + 214) 5 = 0) (h8 : I (x + 214) 8 = nI (m + 1)) (ho : ∀ i, i < m + 1 → o i < n ∧ I (x + 218) i = nI (o i)) : AskC I x n (prO o m) (fiO o m) := fun I' e1 e2 a u A hR hW => by
  have ho' : ∀ i, i < m + 1 → o i < n ∧ I' (x + 218) i = nI (o i) := fun i hi => by rw [e2]; exact ho i hi
  have h8' : I' (x + 214) 8 = nI (m + 1) := by rw [e1 8 (by decide)]; exact h8
  refine Or.inr ⟨by rw [e1 5 (by decide)]; exact h5, ?_, ?_⟩
  · unfold mu_isOutOfOrder prO
    have := out_go hW hR hm h8' ho' m 1 2000 (Nat.le_refl _) (by omega) (by omega)
    have this : mu_isOutOfOrder_2 2000 I' x a 2000 1 = _ := this
    rw [this]
    cases mout o u A m 1 <;> rfl
  · unfold mu_allSit fiO
    have := sit_go hW hR hm h8' ho' (m + 1) 0 2000 (by omega) (by omega)
    have this : mu_allSit_2 2000 I' x a 2000 0 = _ := this
    rw [this]
    cases msit o u (m + 1) 0 <;> rfl
theorem mus_go {I : Nat → Nat → Int32} {J : Nat → Nat → Int64} {u m t : Nat} {g : Int32} {o : Nat → Nat} (hW : Wf (I (z + 1)) n u) (hm : m < 6) (ht : t < 4) (h24 : I z 24 = nI t) (h19 : I (z + 19) t = nI (m + 1)) (ho : ∀ i, i < m + 1 → o i < n ∧ J (z + 20) (40 * t + i) = lN (o i)) : ∀ (j i f : Nat), i + j = m + 1 → j < f → r_isMusic_26 2000 I J z g f (nI i) = some (if mmus o u (I (z + 1)) j i = true then .inr (nI (m + 1)) else .inl 0) := by
  have hn := hW.1
  have hu := hW.u64
  intro j
  induction j with
  | zero =>
    intro i f hij hf
    obtain ⟨f, rfl⟩ : ∃ f', f = f' + 1 := ⟨f - 1, by omega⟩
    obtain rfl : i = m + 1 := by omega
    rw [r_isMusic_26, h24, chk_nI ht (by decide), nI_cl (by omega), h19, if_pos (nI_le (Nat.le_refl _) (by omega))]
    rfl
  | succ j ih =>
    intro i f hij hf
    obtain ⟨f, rfl⟩ : ∃ f', f = f' + 1 := ⟨f - 1, by omega⟩
    obtain ⟨o1, p1⟩ := ho i (by omega)
    rw [r_isMusic_26, h24, chk_nI ht (by decide), nI_cl (show t < 2147483648 by omega), h19, if_neg (nI_ge (by omega) (by omega)), show (40 : Int32) * nI t = nI (40 * t) from pk_mul 40 t, nI_add, chk_nI (show 40 * t + i < 160 by omega) (by decide), nI_cl (show 40 * t + i < 2147483648 by omega), p1]
    try dsimp only
    rw [lN_i, r_isUp_is hW.2.2.1 hu (show o i < 6 by omega), Option.bind_some]
    try dsimp only
    rw [nI_1, ih (i + 1) f (by omega) (by omega), show (53 : Int32) + nI (o i) = nI (53 + o i) from nI_add 53 _]
    rw [mmus_s]
    cases ub u (o i) with
    | true => rw [if_neg (show ¬ b2 true = 0 by decide)]; simp
    | false =>
      rw [if_pos (show b2 false = 0 from rfl)]
      by_cases c0 : i = 0
      · subst c0
        rw [if_pos (show nI 0 ≤ 0 by decide)]
        simp
      · obtain ⟨o2, p2⟩ := ho (i - 1) (by omega)
        rw [if_neg (show ¬ nI i ≤ 0 from nI_nle (by omega) (by omega)), show nI (40 * t + i) - 1 = nI (40 * t + i - 1) from nI_SB (b := 1) (by omega), show 40 * t + i - 1 = 40 * t + (i - 1) by omega, chk_nI (show 40 * t + (i - 1) < 160 by omega) (by decide), nI_cl (show 40 * t + (i - 1) < 2147483648 by omega), p2, lN_i, show (53 : Int32) + nI (o (i - 1)) = nI (53 + o (i - 1)) from nI_add 53 _, chk_nI (show 53 + o (i - 1) < 3891 by omega) (by decide), chk_nI (show 53 + o i < 3891 by omega) (by decide), nI_cl (show 53 + o (i - 1) < 2147483648 by omega), nI_cl (show 53 + o i < 2147483648 by omega), decide_eq_false c0]
        by_cases c1 : I (z + 1) (53 + o (i - 1)) < I (z + 1) (53 + o i)
        · rw [if_pos c1, decide_eq_true c1]; simp
        · rw [if_neg c1, decide_eq_false c1]; simp
theorem asks_O {Iz : Nat → Nat → Int32} {Jz : Nat → Nat → Int64} {m t : Nat} {o : Nat → Nat} (hm : m < 6) (ht : t < 4) (h24 : Iz z 24 = nI t) (h19 : Iz (z + 19) t = nI (m + 1)) (ho : ∀ i, i < m + 1 → o i < n ∧ Jz (z + 20) (40 * t + i) = lN (o i)) : Asks Iz Jz z n tn LT LP (-1) (fun u A => !prO o m u A && fiO o m u A) := fun Iz' hF u e hR => by
  unfold r_isMusic
  rw [if_pos rfl]
  have := mus_go (g := -1) hR.1 hm ht (by rw [hF.2.1 24 (by decide)]; exact h24) (by rw [hF.1 _ (by omega) (by omega) (by omega) (by omega) (by omega) (by omega) (by omega) (by omega)]; exact h19) ho (m + 1) 0 2000 (by omega) (by omega)
  have this : r_isMusic_26 2000 Iz' Jz z (-1) 2000 0 = _ := this
  rw [this, mmus_is]
  show _ = some (b2 (!mout o u (Iz' (z + 1)) m 1 && msit o u (m + 1) 0))
  cases (!mout o u (Iz' (z + 1)) m 1 && msit o u (m + 1) 0) <;> rfl
end
