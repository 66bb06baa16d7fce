/-- places where answers are kept -/
def KeepM (I I2 : Nat → Nat → Int32) (x : Nat) : Prop := I2 (x + 111) = I (x + 111) ∧ I2 (x + 112) = I (x + 112) ∧ I2 (x + 116) = I (x + 116) ∧ I2 (x + 117) = I (x + 117) ∧ I2 (x + 216) = I (x + 216) ∧ I2 (x + 217) = I (x + 217) ∧ I2 (x + 221) = I (x + 221) ∧ I2 (x + 108) 4 = I (x + 108) 4 ∧ I2 (x + 114) 2 = I (x + 114) 2 ∧ I2 (x + 214) 3 = I (x + 214) 3
theorem KeepM.of {I I2 : Nat → Nat → Int32} {x : Nat} (h : ∀ q, x + 108 ≤ q → q < x + 224 → ¬ (x + 135 ≤ q ∧ q ≤ x + 156) → I2 q = I q) : KeepM I I2 x :=
  ⟨h _ (by omega) (by omega) (by omega), h _ (by omega) (by omega) (by omega), h _ (by omega) (by omega) (by omega), h _ (by omega) (by omega) (by omega), h _ (by omega) (by omega) (by omega), h _ (by omega) (by omega) (by omega), h _ (by omega) (by omega) (by omega), by rw [h _ (by omega) (by omega) (by omega)], by rw [h _ (by omega) (by omega) (by omega)], by rw [h _ (by omega) (by omega) (by omega)]⟩
theorem KeepM.rf {I : Nat → Nat → Int32} {x : Nat} : KeepM I I x := ⟨rfl, rfl, rfl, rfl, rfl, rfl, rfl, rfl, rfl, rfl⟩
theorem KeepM.tr {I I1 I2 : Nat → Nat → Int32} {x : Nat} (h : KeepM I I1 x) (h2 : KeepM I1 I2 x) : KeepM I I2 x := by
  obtain ⟨a1, a2, a3, a4, a5, a6, a7, a8, a9, a10⟩ := h
  obtain ⟨b1, b2, b3, b4, b5, b6, b7, b8, b9, b10⟩ := h2
  exact ⟨b1.trans a1, b2.trans a2, b3.trans a3, b4.trans a4, b5.trans a5, b6.trans a6, b7.trans a7, b8.trans a8, b9.trans a9, b10.trans a10⟩
/-- a question that leaves all but places for reckoning as it was -/
def Unq (I I2 : Nat → Nat → Int32) (x c : Nat) (Iz Iz2 : Nat → Nat → Int32) (z : Nat) : Prop := KeepX I I2 x c ∧ KeepZ Iz Iz2 z ∧ KeepM I I2 x
section
variable {T : Nat → Option (Nat × Nat)} {I : Nat → Nat → Int32} {J : Nat → Nat → Int64} {P : Nat → Nat → Option Nat} {x nn c : Nat} {Iz : Nat → Nat → Int32} {Jz : Nat → Nat → Int64} {z N n u tn : Nat} {LT LP : Row → Int32} {d na v : Nat}
theorem unq_0 : Unq I I x c Iz (uI Iz z 0 0) z := ⟨KeepX.rf, KeepZ.thr, KeepM.rf⟩
theorem noTray_bad {a : Int32} (h : a < 0 ∨ nI 4 ≤ a) : x_noTray x a = 1 := by
  unfold x_noTray
  by_cases c0 : a < 0
  · rw [if_pos c0]
  · rw [if_neg c0, if_neg (show ¬ a < 4 from Int32.not_lt.mpr (h.resolve_left c0))]
theorem noTray_ok {t : Nat} (h : t < 4) : x_noTray x (nI t) = 0 := by
  unfold x_noTray
  rw [if_neg (nI_pos (by omega)), if_pos (show nI t < 4 from nI_lt (b := 4) h (by decide))]
theorem within03_bad {a : Int32} (h : a < 0 ∨ nI 4 ≤ a) : r_within (Int32.toInt64 a) 0 3 = 0 := within_bad (n := 4) (by decide) h
theorem within03_ok {t : Nat} (h : t < 4) : r_within (Int32.toInt64 (nI t)) 0 3 = 1 := within_ok (n := 4) (by decide) h
theorem rnoTray_bad {a : Int32} (h : a < 0 ∨ nI 4 ≤ a) : r_noTray Iz z a = some (-2) := by
  unfold r_noTray
  rw [within03_bad h, if_pos rfl]
theorem rnoTray_ok {t : Nat} (h : t < 4) : r_noTray Iz z (nI t) = some (if Iz (z + 18) t = -1 then -6 else 0) := by
  unfold r_noTray
  rw [within03_ok h, if_neg (show ¬ (1 : Int32) = 0 by decide), chk_nI h (by decide), nI_cl (by omega)]
  split <;> rfl
theorem missing_is {ty : Nat} {s : Int32} (h : I ty 2 = s) : ty_isMissing I ty = if s = -1 then 1 else 0 := by
  unfold ty_isMissing
  rw [h]
/-- a State that deeds are tried on, from the one that stands -/
theorem InvS.sm (h : InvS T I J P x nn c Iz Jz z N n u tn LT LP d na v) {I1 Iz1 : Nat → Nat → Int32} {a : Nat} {w : Bool} (ha : x + 12 ≤ a ∧ a + 7 ≤ x + 224) (hR : RS I1 a n (Iz (z + 1)) w) (hI : ∀ q, ¬ Scr x c q → I1 q = I q) (hz : Iz1 (z + 1) = Iz (z + 1)) : ∃ e, e ≤ 50 * N ∧ Sm T I1 P a c Iz1 z n u tn LT LP e w := by
  obtain ⟨g1, ⟨k1, k2, k3, k4, k5, k6, k7, e, k8, k9⟩, -⟩ := id h
  have hc := g1 c (Or.inl rfl)
  refine ⟨e, k8, ?_⟩
  unfold Sm
  rw [hz]
  refine ⟨k2, k3, k4, k5.same (fun q a1 a2 => hI q (fun cc => ?_)) (fun w hw => hI _ (fun cc => ?_)), hR, k7, h.apt ha.1 ha.2, k9⟩
  · have := hc.1.1
    unfold Scr at cc
    omega
  · have := hc.1.2.2 w hw
    have := (hc.2 c (Or.inl rfl)).2 w hw
    unfold Scr at cc
    omega
theorem i3_cases (b : Int32) (h : ¬ (b < 0 ∨ nI 4 ≤ b)) : b = 0 ∨ b = 1 ∨ b = 2 ∨ b = 3 := by
  rcases arg_cases b 4 (by decide) with hb | ⟨j, hj, rfl⟩
  · exact absurd hb h
  · have : j = 0 ∨ j = 1 ∨ j = 2 ∨ j = 3 := by omega
    rcases this with rfl | rfl | rfl | rfl
    · exact Or.inl rfl
    · exact Or.inr (Or.inl rfl)
    · exact Or.inr (Or.inr (Or.inl rfl))
    · exact Or.inr (Or.inr (Or.inr rfl))
theorem judge_call (h : InvS T I J P x nn c Iz Jz z N n u tn LT LP d na v) (hN : N < 600) (a b : Int32) : ∃ r I2 Iz2, x_judge 2000 T I J P x c a b = some (r, I2) ∧ r_judge 2000 Iz Jz z a b = some (r, Iz2) ∧ Unq I I2 x c Iz Iz2 z := by
  have hn := h.n6
  have hcx := (h.1 c (Or.inl rfl)).1.1
  have z1 : uI Iz z 0 0 (z + 1) = Iz (z + 1) := thr_row (by decide)
  have z18 : uI Iz z 0 0 (z + 18) = Iz (z + 18) := thr_row (by decide)
  unfold x_judge r_judge
  try dsimp only
  by_cases hb : b < 0 ∨ nI 4 ≤ b
  · rw [within03_bad hb, if_pos rfl]
    have e1 : (if b < 0 then some ((-2 : Int32), I) else if b ≤ 3 then (chk a 4 (if ty_isMissing I (x + (135 + 2 * Int32.toNatClampNeg a)) = 0 then none else some (-6, I))) else some (-2, I)) = some (-2, I) := by
      by_cases c0 : b < 0
      · rw [if_pos c0]
      · rw [if_neg c0, if_neg (fun cc => by
          have := hb.resolve_left c0
          rw [i32_le] at this cc
          have k1 : (nI 4).toInt = 4 := rfl
          have k2 : (3 : Int32).toInt = 3 := rfl
          omega)]
    split
    · by_cases c0 : b < 0
      · rw [if_pos c0]
        exact ⟨_, _, _, rfl, rfl, unq_0⟩
      · rw [if_neg c0, if_neg (fun cc => by
          have := hb.resolve_left c0
          rw [i32_le] at this cc
          have k1 : (nI 4).toInt = 4 := rfl
          have k2 : (3 : Int32).toInt = 3 := rfl
          omega)]
        exact ⟨_, _, _, rfl, rfl, unq_0⟩
    · exact ⟨_, _, _, rfl, rfl, unq_0⟩
  have hb3 := i3_cases b hb
  have hb1 : r_within (Int32.toInt64 b) 0 3 = 1 := by rcases hb3 with rfl | rfl | rfl | rfl <;> decide
  have hb0 : ¬ b < 0 := by rcases hb3 with rfl | rfl | rfl | rfl <;> decide
  have hb4 : b ≤ 3 := by rcases hb3 with rfl | rfl | rfl | rfl <;> decide
  rw [hb1, if_neg (show ¬ (1 : Int32) = 0 by decide), if_neg hb0, if_pos hb4]
  rcases arg_cases a 4 (by decide) with ha | ⟨t, ht, rfl⟩
  · rw [noTray_bad ha, if_neg (show ¬ (1 : Int32) = 0 by decide), rnoTray_bad ha, Option.bind_some]
    exact ⟨_, _, _, rfl, rfl, unq_0⟩
  obtain ⟨m, t1, t2, t3, t4, t5⟩ := h.2.2.2.1 t ht
  rw [noTray_ok ht, if_pos rfl, chk_nI ht (by decide), nI_cl (by omega), missing_is t4, rnoTray_ok ht, z18, Option.bind_some]
  by_cases hs : Iz (z + 18) t = -1
  · rw [if_pos hs, if_neg (show ¬ (1 : Int32) = 0 by decide), if_pos hs]
    exact ⟨_, _, _, rfl, rfl, unq_0⟩
  rw [if_neg hs, if_pos rfl, if_neg hs]
  try dsimp only
  rw [if_pos (show (0 : Int32) = 0 from rfl)]
  obtain ⟨I1, e1, R1, q1⟩ := h.rs.copy (a := x + 101) hn h.wf.2.2.2.2 (by omega)
  rw [e1, Option.bind_some]
  obtain ⟨Iz1, f1, f2, f3⟩ := r_keeps_is (I := uI Iz z 0 0) (z := z)
  rw [z1] at f2
  have y1 : Iz1 (z + 1) = Iz (z + 1) := (f3 _ (by omega)).trans z1
  rw [f1, Option.bind_some]
  try dsimp only
  obtain ⟨e, he, S1⟩ := h.sm (Iz1 := uI Iz1 z 20 0) (a := x + 101) (by omega) R1 (fun q hq => q1 q (fun cc => hq (by unfold Scr; omega))) (by rw [uI_row _ _ _ _ _ (by omega)]; exact y1)
  obtain ⟨r, I2, Iz2, w, g1, g2, ⟨⟨u2, e2, -, S2⟩, fx, ⟨fr1, fr2, fr3⟩, -, k2, k3, k4, -⟩, g4⟩ := all_go (x := x) (t := t) (m := m) (ty := x + (135 + 2 * t)) (by omega) ht t1 t5 m 0 2000 2000 e u I1 (uI Iz1 z 20 0) (by omega) (by omega) (by omega) (by omega) S1 (by rw [q1 _ (by omega)]; exact t3) (by rw [uI_row _ _ _ _ _ (by omega), f3 _ (by omega), thr_row (by decide)]; exact t2) (fun _ => uI_e _ _ _ _)
  have g1 : x_doAll_2 2000 T J P x (x + 101) (x + (135 + 2 * t)) c 2000 0 I1 = _ := g1
  have g2 : r_tells_7 2000 Jz z (nI t) 2000 0 (uI Iz1 z 20 0) = _ := g2
  have m2 : I2 (x + (135 + 2 * t)) 1 = nI m := by rw [fx _ (by omega) (by omega) (by omega) (by omega), q1 _ (by omega)]; exact t3
  have h19 : Iz2 (z + 19) t = nI m := by
    rw [fr1 _ (by omega) (by omega) (by omega) (by omega) (by omega) (by omega), uI_row _ _ _ _ _ (by omega), f3 _ (by omega), thr_row (by decide)]
    exact t2
  have ga : x_doAll 2000 T I1 J P x (x + 101) (x + (135 + 2 * t)) c = some (nI r, I2) := by
    unfold x_doAll
    rw [g1, Option.bind_some]
    by_cases er : r = m
    · rw [if_pos er]
      show some (I2 (x + (135 + 2 * t)) 1, I2) = _
      rw [m2, er]
    · rw [if_neg er]
  have gb : r_tells 2000 Iz1 Jz z (nI t) = some (nI r, Iz2) := by
    unfold r_tells
    try dsimp only
    rw [g2, Option.bind_some]
    by_cases er : r = m
    · rw [if_pos er]
      show chk (nI t) 4 (some (Iz2 (z + 19) (nI t).toNatClampNeg, Iz2)) = _
      rw [chk_nI ht (by decide), nI_cl (by omega), h19, er]
    · rw [if_neg er]
  rw [ga, gb, Option.bind_some, Option.bind_some]
  try dsimp only
  rw [r_first_is S2.1, Option.bind_some]
  obtain ⟨Iz3, y2, y3, y4⟩ := r_isAgain_is (I := Iz2) (z := z)
  rw [y2, Option.bind_some]
  try dsimp only
  have back : Iz3 (z + 1) = Iz (z + 1) := by
    rw [y3]
    refine mbk_same (fun k hk => ?_) (fun k hk => ?_)
    · rw [fr3 k hk, uI_row _ _ _ _ _ (by omega), y1]
    · rw [fr1 _ (by omega) (by omega) (by omega) (by omega) (by omega) (by omega), uI_row _ _ _ _ _ (by omega)]
      exact f2 k hk
  have zz : ∀ q, q ≠ z → q ≠ z + 1 → (q ≤ z + 3 ∨ z + 18 ≤ q) → Iz3 q = Iz q := fun q a0 a1 a2 => by
    rw [y4 q a1, fr1 q a0 a1 (by omega) (by omega) (by omega) (by omega), uI_row _ _ _ _ _ a0, f3 q (by omega), uI_row _ _ _ _ _ a0]
  have zk : ∀ k, k ≠ 0 → k ≠ 20 → Iz3 z k = Iz z k := fun k a0 a1 => by
    rw [y4 _ (by omega), fr2 k a1, uI_k _ _ _ _ _ a1, f3 _ (by omega), uI_k _ _ _ _ _ a0]
  have keepz : KeepZ Iz Iz3 z := ⟨back, zz _ (by omega) (by omega) (by omega), zz _ (by omega) (by omega) (by omega), zz _ (by omega) (by omega) (by omega), zz _ (by omega) (by omega) (by omega), zk 5 (by decide) (by decide), zk 13 (by decide) (by decide), zk 14 (by decide) (by decide)⟩
  have xq : ∀ q, ¬ (x + 101 ≤ q ∧ q ≤ x + 107) → q ≠ c + 5 → q ≠ c + 6 → q ≠ c + 7 → I2 q = I q := fun q a1 a2 a3 a4 => by rw [fx q (by omega) a2 a3 a4, q1 q (by omega)]
  have keepx : KeepX I I2 x c := KeepX.of (fun q hq => xq q (fun cc => hq (by unfold Scr; omega)) (fun cc => hq (by unfold Scr; omega)) (fun cc => hq (by unfold Scr; omega)) (fun cc => hq (by unfold Scr; omega))) (xq _ (by omega) (by omega) (by omega) (by omega)) (xq _ (by omega) (by omega) (by omega) (by omega))
  have keepm : KeepM I I2 x := KeepM.of (fun q a1 a2 a3 => xq q (by omega) (by omega) (by omega) (by omega))
  have w20 : Iz3 z 20 = w := by rw [y4 _ (by omega)]; exact k4
  rw [w20]
  have hrm : I2 (x + (135 + 2 * t)) 1 ≤ nI r ↔ r = m := by
    rw [m2]
    exact ⟨fun cc => by have := (nI_leI (by omega) (by omega)).mp cc; omega, fun cc => by rw [cc]; exact nI_le (Nat.le_refl _) (by omega)⟩
  rcases hb3 with rfl | rfl | rfl | rfl
  · rw [if_pos rfl, if_pos rfl]
    by_cases er : r = m
    · rw [if_pos (hrm.mpr er), if_pos (k3.mpr er)]
      exact ⟨_, _, _, rfl, rfl, keepx, keepz, keepm⟩
    · rw [if_neg (fun cc => er (hrm.mp cc)), if_neg (fun cc => er (k3.mp cc))]
      exact ⟨_, _, _, rfl, rfl, keepx, keepz, keepm⟩
  · rw [if_neg (show ¬ (1 : Int32) = 0 by decide), if_pos rfl, if_neg (show ¬ (1 : Int32) = 0 by decide), if_pos rfl]
    by_cases er : r = m
    · rw [if_pos (hrm.mpr er), k3.mpr er]
      exact ⟨_, _, _, rfl, rfl, keepx, keepz, keepm⟩
    · rw [if_neg (fun cc => er (hrm.mp cc)), chk_nI (by omega) (by decide), nI_cl (by omega)]
      obtain ⟨I4, e4, rfl⟩ := g4 (by omega) _ rfl
      rw [e4]
      exact ⟨_, _, _, rfl, rfl, keepx, keepz, keepm⟩
  · rw [if_neg (show ¬ (2 : Int32) = 0 by decide), if_neg (show ¬ (2 : Int32) = 1 by decide), if_pos rfl, if_neg (show ¬ (2 : Int32) = 0 by decide), if_neg (show ¬ (2 : Int32) = 1 by decide), if_pos rfl, S2.2.2.2.2.1.2.1]
    exact ⟨_, _, _, rfl, rfl, keepx, keepz, keepm⟩
  · rw [if_neg (show ¬ (3 : Int32) = 0 by decide), if_neg (show ¬ (3 : Int32) = 1 by decide), if_neg (show ¬ (3 : Int32) = 2 by decide), if_neg (show ¬ (3 : Int32) = 0 by decide), if_neg (show ¬ (3 : Int32) = 1 by decide), if_neg (show ¬ (3 : Int32) = 2 by decide), s_first_is S2.1 S2.2.2.2.2.1]
    exact ⟨_, _, _, rfl, rfl, keepx, keepz, keepm⟩
end
