section
variable {T : Nat → Option (Nat × Nat)} {I : Nat → Nat → Int32} {J : Nat → Nat → Int64} {P : Nat → Nat → Option Nat} {x nn c : Nat} {Iz : Nat → Nat → Int32} {Jz : Nat → Nat → Int64} {z N n u tn : Nat} {LT LP : Row → Int32} {d na v : Nat}
theorem perform_call (h : InvS T I J P x nn c Iz Jz z N n u tn LT LP d na v) (hN : N < 600) (a : Int32) : ∃ r I2 Iz2, x_perform 2000 T I J P x c a = some (r, I2) ∧ r_perform 2000 Iz Jz z a = some (r, Iz2) ∧ (Done T I I2 J P x nn c Iz2 Jz z N v ∨ Unq I I2 x c Iz Iz2 z) := by
  have hn := h.n6
  have hcx := (h.1 c (Or.inl rfl)).1.1
  have z1 : uI Iz z 0 0 (z + 1) = Iz (z + 1) := thr_row (by decide)
  have z18 : uI Iz z 0 0 (z + 18) = Iz (z + 18) := thr_row (by decide)
  unfold x_perform r_perform
  try dsimp only
  rcases arg_cases a 4 (by decide) with ha | ⟨t, ht, rfl⟩
  · rw [noTray_bad ha, if_neg (show ¬ (1 : Int32) = 0 by decide), rnoTray_bad ha, Option.bind_some]
    exact ⟨_, _, _, rfl, rfl, Or.inr unq_0⟩
  obtain ⟨m, t1, t2, t3, t4, t5⟩ := h.2.2.2.1 t ht
  rw [noTray_ok ht, if_pos rfl, chk_nI ht (by decide), nI_cl (by omega), missing_is t4, rnoTray_ok ht, z18, Option.bind_some]
  by_cases hs : Iz (z + 18) t = -1
  · rw [if_pos hs, if_neg (show ¬ (1 : Int32) = 0 by decide), if_pos hs]
    exact ⟨_, _, _, rfl, rfl, Or.inr unq_0⟩
  rw [if_neg hs, if_pos rfl, if_neg hs]
  try dsimp only
  rw [if_pos (show (0 : Int32) = 0 from rfl)]
  obtain ⟨I1, e1, hB, q1, h1⟩ := before_is h
  rw [e1, Option.bind_some]
  obtain ⟨Iz1, f1, f2, f3⟩ := r_keeps_is (I := uI Iz z 0 0) (z := z)
  rw [z1] at f2
  have y1 : Iz1 (z + 1) = Iz (z + 1) := (f3 _ (by omega)).trans z1
  rw [f1, Option.bind_some]
  try dsimp only
  obtain ⟨e, he, S1⟩ := h.sm (Iz1 := uI Iz1 z 20 0) (a := x + 12) (by omega) h1.rs (fun q hq => q1 q (fun cc => hq (by unfold Scr; omega))) (by rw [uI_row _ _ _ _ _ (by omega)]; exact y1)
  obtain ⟨r, I2, Iz2, w, g1, g2, ⟨⟨u2, e2, he2, S2⟩, fx, ⟨fr1, fr2, fr3⟩, -, k2, k3, k4, k5⟩, -⟩ := all_go (x := x) (t := t) (m := m) (ty := x + (135 + 2 * t)) (by omega) ht t1 t5 m 0 2000 2000 e u I1 (uI Iz1 z 20 0) (by omega) (by omega) (by omega) (by omega) S1 (by rw [q1 _ (by omega)]; exact t3) (by rw [uI_row _ _ _ _ _ (by omega), f3 _ (by omega), thr_row (by decide)]; exact t2) (fun _ => uI_e _ _ _ _)
  have g1 : x_doAll_2 2000 T J P x (x + 12) (x + (135 + 2 * t)) c 2000 0 I1 = _ := g1
  have g2 : r_tells_7 2000 Jz z (nI t) 2000 0 (uI Iz1 z 20 0) = _ := g2
  have m2 : I2 (x + (135 + 2 * t)) 1 = nI m := by rw [fx _ (by omega) (by omega) (by omega) (by omega), q1 _ (by omega)]; exact t3
  have h19 : Iz2 (z + 19) t = nI m := by
    rw [fr1 _ (by omega) (by omega) (by omega) (by omega) (by omega) (by omega), uI_row _ _ _ _ _ (by omega), f3 _ (by omega), thr_row (by decide)]
    exact t2
  have ga : x_doAll 2000 T I1 J P x (x + 12) (x + (135 + 2 * t)) c = some (nI r, I2) := by
    unfold x_doAll
    rw [g1, Option.bind_some]
    by_cases er : r = m
    · rw [if_pos er]
      show some (I2 (x + (135 + 2 * t)) 1, I2) = _
      rw [m2, er]
    · rw [if_neg er]
  have gb : r_tells 2000 Iz1 Jz z (nI t) = some (nI r, Iz2) := by
    unfold r_tells
    try dsimp only
    rw [g2, Option.bind_some]
    by_cases er : r = m
    · rw [if_pos er]
      show chk (nI t) 4 (some (Iz2 (z + 19) (nI t).toNatClampNeg, Iz2)) = _
      rw [chk_nI ht (by decide), nI_cl (by omega), h19, er]
    · rw [if_neg er]
  rw [ga, gb, Option.bind_some, Option.bind_some]
  try dsimp only
  have zk : ∀ k, k ≠ 0 → k ≠ 20 → Iz2 z k = Iz z k := fun k a0 a1 => by
    rw [fr2 k a1, uI_k _ _ _ _ _ a1, f3 _ (by omega), uI_k _ _ _ _ _ a0]
  have zz : ∀ q, q ≠ z → q ≠ z + 1 → (q ≤ z + 3 ∨ z + 18 ≤ q) → Iz2 q = Iz q := fun q a0 a1 a2 => by
    rw [fr1 q a0 a1 (by omega) (by omega) (by omega) (by omega), uI_row _ _ _ _ _ a0, f3 q (by omega), uI_row _ _ _ _ _ a0]
  have keep1 : KeepZ1 Iz Iz2 z := ⟨zz _ (by omega) (by omega) (by omega), zz _ (by omega) (by omega) (by omega), zz _ (by omega) (by omega) (by omega), zz _ (by omega) (by omega) (by omega), zk 5 (by decide) (by decide), zk 13 (by decide) (by decide), zk 14 (by decide) (by decide)⟩
  by_cases hr : r = 0
  · subst hr
    rw [if_pos (show nI 0 ≤ 0 by decide), if_pos (show nI 0 ≤ 0 by decide)]
    obtain ⟨rfl, k6⟩ := k5 rfl
    refine ⟨_, _, _, rfl, rfl, Or.inr ⟨KeepX.of (fun q hq => q1 q (fun cc => hq (by unfold Scr; omega))) (q1 _ (by omega)) (q1 _ (by omega)), ⟨?_, keep1⟩, KeepM.of (fun q a1 a2 a3 => q1 q (by omega))⟩⟩
    show Iz2 (z + 1) = Iz (z + 1)
    rw [k6 _ (by omega), uI_row _ _ _ _ _ (by omega), y1]
  · rw [if_neg (nI_nle (by omega) (by omega)), if_neg (nI_nle (by omega) (by omega))]
    have hcx1 : ∀ q, x ≤ q → q < x + 224 → ¬ (x + 9 ≤ q ∧ q ≤ x + 11) → q ≠ c + 5 ∧ q ≠ c + 6 ∧ q ≠ c + 7 := fun q a b cc => by omega
    obtain ⟨I3, Iz3, d', na', k1', k2', k3', k4', k5', k6'⟩ := deed_keep h (I1 := I2) (Iz1 := Iz2) (A1 := Iz2 (z + 1)) (u1 := u2) rfl (fun k hk => by rw [fr3 k hk, uI_row _ _ _ _ _ (by omega), y1]) S2.1 ⟨e2, by omega, S2.2.2.2.2.2.2.2⟩ S2.2.2.2.2.1
      (hB.same (fun q a b => fx q (by omega) (by omega) (by omega) (by omega)))
      (fun q a b => by
        have a' := a
        unfold Scr at a'
        rw [fx q (by omega) (by omega) (by omega) (by omega)]
        exact q1 q (by omega))
      (by rw [fx _ (by omega) (by omega) (by omega) (by omega)]; exact q1 _ (by omega)) (by rw [fx _ (by omega) (by omega) (by omega) (by omega)]; exact q1 _ (by omega))
      (fun k hk => by rw [fr1 _ (by omega) (by omega) (by omega) (by omega) (by omega) (by omega), uI_row _ _ _ _ _ (by omega)]; exact f2 k hk) keep1
    rw [k1', k2', Option.bind_some, Option.bind_some]
    refine ⟨_, _, _, rfl, rfl, Or.inl ⟨⟨_, _, _, _, _, _, _, k3'⟩, fun q a1 a2 a3 => ?_⟩⟩
    rw [k5' q (by omega) (by omega), fx q (by omega) (by omega) (by omega) (by omega), q1 q (by omega)]
end
/-! draws -/
def drs (s : Int32) : Int32 := 1103515245 * s + 12345
def drk (s : Int32) : Nat := s.toBitVec.toNat / 2 ^ 16
theorem drk_lt (s : Int32) : drk s < 65536 := by
  unfold drk
  have := s.toBitVec.isLt
  omega
theorem drk_is (s : Int32) : (Int32.toUInt32 s >>> (Int32.toUInt32 16 &&& Int32.toUInt32 31)).toInt32 = nI (drk s) := by
  have h := pk_ushr s 16 16 rfl
  have h2 : (nI (drk s)).toBitVec.toNat = drk s := pk_tn (by have := drk_lt s; omega)
  apply Int32.toBitVec_inj.mp
  apply BitVec.eq_of_toNat_eq
  rw [h, h2]
  rfl
theorem bind_eta {α β : Type} (o : Option (α × β)) : (o.bind fun q => some (q.1, q.2)) = o := by
  cases o <;> rfl
