/-! waiting: the questions ahead -/
section
variable {T : Nat → Option (Nat × Nat)} {I : Nat → Nat → Int32} {J : Nat → Nat → Int64} {P : Nat → Nat → Option Nat} {x nn a c : Nat} {Iz : Nat → Nat → Int32} {Jz : Nat → Nat → Int64} {z N n u tn : Nat} {LT LP : Row → Int32} {d na v e : Nat}
theorem waitCode_is (h : InvS T I J P x nn c Iz Jz z N n u tn LT LP d na v) (a b t w : Int32) : ∃ r, x_codeOfWaiting I x c a b t w = r ∧ r_noRests (uI Iz z 0 0) z a b t w = some r ∧ (r = 0 → ∃ p q k m, a = nI p ∧ b = nI q ∧ t = nI k ∧ w = nI m ∧ p < n ∧ q < n ∧ p ≠ q ∧ k < tn ∧ m ≤ 20 ∧ ub u p = true ∧ ub u q = true) := by
  have hn := h.n6
  have ht := h.t4
  have z1 : uI Iz z 0 0 (z + 1) = Iz (z + 1) := thr_row (by decide)
  have y1 : uI Iz z 0 0 (z + 1) 1 = nI n := by rw [z1]; exact h.wf.2.1
  have y2 : uI Iz z 0 0 (z + 1) 2 = nI tn := by rw [z1]; exact h.z2
  have n2 : ∀ r : Int32, r ≠ 0 → r = 0 → ∃ p q k m, a = nI p ∧ b = nI q ∧ t = nI k ∧ w = nI m ∧ p < n ∧ q < n ∧ p ≠ q ∧ k < tn ∧ m ≤ 20 ∧ ub u p = true ∧ ub u q = true := fun r h1 h2 => absurd h2 h1
  unfold x_codeOfWaiting r_noRests
  rcases arg_cases a n (by omega) with ha | ⟨p, hp, rfl⟩
  · rw [noPerson_bad h.c0 hn ha, areTwo_bad1 y1 hn ha, if_neg (show ¬ (1 : Int32) = 0 by decide)]
    exact ⟨_, rfl, rfl, n2 _ (by decide)⟩
  rw [noPerson_ok h.c0 hn hp, if_pos rfl]
  rcases arg_cases b n (by omega) with hb | ⟨q, hq, rfl⟩
  · rw [noPerson_bad h.c0 hn hb, areTwo_bad2 y1 hn hp hb, if_neg (show ¬ (1 : Int32) = 0 by decide)]
    exact ⟨_, rfl, rfl, n2 _ (by decide)⟩
  rw [noPerson_ok h.c0 hn hq, if_pos rfl, areTwo_ok y1 hn hp hq, Option.bind_some]
  try dsimp only
  by_cases epq : p = q
  · rw [if_pos (show nI p = nI q by rw [epq]), if_pos epq, if_pos rfl]
    exact ⟨_, rfl, rfl, n2 _ (by decide)⟩
  rw [if_neg (show ¬ nI p = nI q from fun cc => epq ((nI_eq (by omega) (by omega)).mp cc)), if_neg epq, if_neg (show ¬ (1 : Int32) = 0 by decide)]
  rcases arg_cases t tn (by omega) with hb | ⟨k, hk, rfl⟩
  · rw [noTune_bad h.c1 (by omega) hb, isTune_bad y2 (by omega) hb, if_neg (show ¬ (1 : Int32) = 0 by decide)]
    exact ⟨_, rfl, rfl, n2 _ (by decide)⟩
  rw [noTune_ok h.c1 (by omega) hk, if_pos rfl, isTune_ok y2 (by omega) hk, Option.bind_some]
  try dsimp only
  rw [if_neg (show ¬ (1 : Int32) = 0 by decide)]
  rcases arg_cases w 21 (by decide) with hw | ⟨m, hm, rfl⟩
  · rw [show r_within (Int32.toInt64 w) 0 20 = 0 from within_bad (n := 21) (by decide) hw, if_pos rfl]
    by_cases c0 : w < 0
    · rw [if_pos c0]
      exact ⟨_, rfl, rfl, n2 _ (by decide)⟩
    · have c1 : ¬ w ≤ 20 := fun cc => by
        rcases hw with hw | hw
        · exact c0 hw
        have e1 := Int32.le_iff_toInt_le.mp cc
        have e2 := Int32.le_iff_toInt_le.mp hw
        have e3 : (nI 21).toInt = 21 := by decide
        have e4 : (20 : Int32).toInt = 20 := by decide
        omega
      rw [if_neg c0, if_neg c1]
      exact ⟨_, rfl, rfl, n2 _ (by decide)⟩
  rw [show r_within (Int32.toInt64 (nI m)) 0 20 = 1 from within_ok (n := 21) (by decide) hm, if_neg (show ¬ (1 : Int32) = 0 by decide), if_neg (show ¬ nI m < 0 from nI_nlt (b := 0) (by omega) (by omega)), if_pos (show nI m ≤ 20 from nI_le (b := 20) (by omega) (by omega)), s_isUp_is (h.rs.2.1.trans h.wf.2.2.1) h.wf.u64 (show p < 6 by omega), r_isUp_is (by rw [z1]; exact h.wf.2.2.1) h.wf.u64 (show p < 6 by omega), Option.bind_some]
  try dsimp only
  cases hbp : ub u p with
  | false =>
    rw [if_pos (show b2 false = 0 from rfl), if_pos (show b2 false = 0 from rfl)]
    exact ⟨_, rfl, rfl, n2 _ (by decide)⟩
  | true =>
    rw [if_neg (show ¬ b2 true = 0 by decide), if_neg (show ¬ b2 true = 0 by decide), s_isUp_is (h.rs.2.1.trans h.wf.2.2.1) h.wf.u64 (show q < 6 by omega), r_isUp_is (by rw [z1]; exact h.wf.2.2.1) h.wf.u64 (show q < 6 by omega), Option.bind_some]
    try dsimp only
    cases hbq : ub u q with
    | false =>
      rw [if_pos (show b2 false = 0 from rfl), if_pos (show b2 false = 0 from rfl)]
      exact ⟨_, rfl, rfl, n2 _ (by decide)⟩
    | true =>
      rw [if_neg (show ¬ b2 true = 0 by decide), if_neg (show ¬ b2 true = 0 by decide)]
      exact ⟨_, rfl, rfl, fun _ => ⟨p, q, k, m, rfl, rfl, rfl, rfl, hp, hq, epq, hk, by omega, hbp, hbq⟩⟩
end
