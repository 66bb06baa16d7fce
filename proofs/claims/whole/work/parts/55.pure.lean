section
variable {T : Nat → Option (Nat × Nat)} {I : Nat → Nat → Int32} {J : Nat → Nat → Int64} {P : Nat → Nat → Option Nat} {x nn c : Nat} {Iz : Nat → Nat → Int32} {Jz : Nat → Nat → Int64} {z N n u tn : Nat} {LT LP : Row → Int32} {d na v : Nat}
/-- after some draws: what has come of a State and of the row (dn: how many deeds) -/
def Sea (T : Nat → Option (Nat × Nat)) (I0 I : Nat → Nat → Int32) (P : Nat → Nat → Option Nat) (x c : Nat) (Iz0 Iz : Nat → Nat → Int32) (z n tn : Nat) (LT LP : Row → Int32) (e dn : Nat) : Prop :=
  (∃ u1 e1, e1 ≤ e + dn ∧ Sm T I P (x + 12) c Iz z n u1 tn LT LP e1 true) ∧ I x 10 = Iz z 21 ∧ (∀ q, q ≠ x → ¬ (x + 12 ≤ q ∧ q ≤ x + 18) → q ≠ c + 5 → q ≠ c + 6 → q ≠ c + 7 → I q = I0 q) ∧ (∀ j, j ≠ 10 → I x j = I0 x j) ∧ (∀ q, q ≠ z → q ≠ z + 1 → q ≠ z + 5 → q ≠ z + 6 → q ≠ z + 8 → q ≠ z + 9 → Iz q = Iz0 q) ∧ (∀ j, j ≠ 21 → Iz z j = Iz0 z j) ∧ (∀ k, ¬ (32 ≤ k ∧ k < 65) → Iz (z + 1) k = Iz0 (z + 1) k) ∧ (dn = 0 → (∀ q, q ≠ x → I q = I0 q) ∧ ∀ q, q ≠ z → Iz q = Iz0 q)
theorem sea_go {I0 Iz0 : Nat → Nat → Int32} {e0 m : Nat} {g1 : Int32} (he0 : e0 < 900000) (hm : m ≤ 40) (hc : c = x + 4 ∨ x + 224 ≤ c) (hw : ∀ w, P c 8 = some w ∨ P c 9 = some w → x < w) : ∀ (j k f g dn : Nat) (I Iz : Nat → Nat → Int32), k + j = m → j < f → j < g → dn ≤ k → Sea T I0 I P x c Iz0 Iz z n tn LT LP e0 dn →
    ∃ dn' I1 Iz1, x_season_35 2000 T P x c g1 (nI m) f (nI dn) (nI k) I = some (nI dn', nI m, I1) ∧ r_season_34 2000 z g1 (nI m) g (nI dn) (nI k) Iz = some (nI dn', nI m, Iz1) ∧ dn' ≤ m ∧ Sea T I0 I1 P x c Iz0 Iz1 z n tn LT LP e0 dn' := by
  intro j
  induction j with
  | zero =>
    intro k f g dn I Iz hk hf hg hd hS
    obtain ⟨f, rfl⟩ : ∃ f', f = f' + 1 := ⟨f - 1, by omega⟩
    obtain ⟨g, rfl⟩ : ∃ f', g = f' + 1 := ⟨g - 1, by omega⟩
    obtain rfl : k = m := by omega
    refine ⟨dn, I, Iz, ?_, ?_, by omega, hS⟩
    · rw [x_season_35, if_pos (nI_le (Nat.le_refl _) (by omega))]
    · rw [r_season_34, if_pos (nI_le (Nat.le_refl _) (by omega))]
  | succ j ih =>
    intro k f g dn I Iz hk hf hg hd hS
    obtain ⟨f, rfl⟩ : ∃ f', f = f' + 1 := ⟨f - 1, by omega⟩
    obtain ⟨g, rfl⟩ : ∃ f', g = f' + 1 := ⟨g - 1, by omega⟩
    obtain ⟨⟨u1, e1, he1, S1⟩, s2, s3, s4, s5, s6, s7, s8⟩ := hS
    obtain ⟨w, I1, vv, I', Iz', d1, d2, hx, hz, hs, S2, t1, t2⟩ := cp_drawn (x := x) S1 (by omega) (by omega) (by omega) hw s2
    rw [x_season_35, if_neg (nI_ge (by omega) (by omega)), d1, Option.bind_some, r_season_34, if_neg (nI_ge (by omega) (by omega)), d2, Option.bind_some]
    try dsimp only
    rw [t1, Option.bind_some]
    rcases t2 with ⟨f1, rfl⟩ | ⟨rfl, Iz1, f2, ⟨⟨u2, e2, he2, S3⟩, fx, fr⟩⟩
    · rw [if_neg f1, if_neg f1, nI_1]
      refine ih (k + 1) f g dn I1 Iz' (by omega) (by omega) (by omega) (by omega) ⟨⟨u1, e1, he1, S2⟩, hs, fun q a0 a1 a2 a3 a4 => ?_, fun j hj => ?_, fun q a0 a1 a2 a3 a4 a5 => ?_, fun j hj => ?_, fun k hk => ?_, fun h0 => ⟨fun q hq => ?_, fun q hq => ?_⟩⟩
      · rw [hx.1 q a0, s3 q a0 a1 a2 a3 a4]
      · rw [hx.2 j hj, s4 j hj]
      · rw [hz.1 q a0, s5 q a0 a1 a2 a3 a4 a5]
      · rw [hz.2 j hj, s6 j hj]
      · rw [hz.1 _ (by omega), s7 k hk]
      · rw [hx.1 q hq, (s8 h0).1 q hq]
      · rw [hz.1 q hq, (s8 h0).2 q hq]
    · rw [if_pos rfl, if_pos rfl]
      rw [i64_32] at f2
      rw [f2, Option.bind_some, nI_1, nI_1]
      refine ih (k + 1) f g (dn + 1) I1 Iz1 (by omega) (by omega) (by omega) (by omega) ⟨⟨u2, e2, by omega, S3⟩, ?_, fun q a0 a1 a2 a3 a4 => ?_, fun j hj => ?_, fun q a0 a1 a2 a3 a4 a5 => ?_, fun j hj => ?_, fun k hk => ?_, fun h0 => by omega⟩
      · rw [fx x (by omega) (by omega) (by omega) (by omega), fr.1 z (by omega) (by omega) (by omega) (by omega) (by omega), hs]
      · rw [fx q (by omega) a2 a3 a4, hx.1 q a0, s3 q a0 a1 a2 a3 a4]
      · rw [fx x (by omega) (by omega) (by omega) (by omega), hx.2 j hj, s4 j hj]
      · rw [fr.1 q a1 a2 a3 a4 a5, hz.1 q a0, s5 q a0 a1 a2 a3 a4 a5]
      · rw [fr.1 z (by omega) (by omega) (by omega) (by omega) (by omega), hz.2 j hj, s6 j hj]
      · rw [fr.2 k hk, hz.1 _ (by omega), s7 k hk]
theorem within1_40 (b : Int32) : r_within (Int32.toInt64 b) 1 40 = b2 (decide (1 ≤ b) && decide (b ≤ 40)) := within_i b 1 40
theorem season_call (h : InvS T I J P x nn c Iz Jz z N n u tn LT LP d na v) (hN : N < 600) (a b : Int32) : ∃ r I2 Iz2, x_season 2000 T I P x c a b = some (r, I2) ∧ r_season 2000 Iz z a b = some (r, Iz2) ∧ (Done T I I2 J P x nn c Iz2 Jz z N v ∨ Unq I I2 x c Iz Iz2 z) := by
  have hn := h.n6
  have hcc := h.1 c (Or.inl rfl)
  have hcx := hcc.1.1
  have z1 : uI Iz z 0 0 (z + 1) = Iz (z + 1) := thr_row (by decide)
  unfold x_season r_season
  try dsimp only
  rw [within1_40]
  by_cases hb : 1 ≤ b ∧ b ≤ 40
  · have d1 : (decide (1 ≤ b) && decide (b ≤ 40)) = true := by simp [hb.1, hb.2]
    rw [d1, if_neg (Int32.not_lt.mpr hb.1), if_pos hb.2, if_neg (show ¬ b2 true = 0 by decide)]
    obtain ⟨m, hm1, hm2, rfl⟩ := small_of (c := b) (a := 1) (b := 41) hb.1 (by
      have := hb.2
      rw [i32_le] at this
      rw [i32_lt]
      have k1 : (40 : Int32).toInt = 40 := rfl
      have k2 : (nI 41).toInt = 41 := rfl
      omega) (by decide) (by decide)
    obtain ⟨I1, e1, hB, q1, h1⟩ := before_is h
    rw [e1, Option.bind_some]
    obtain ⟨Iz1, f1, f2, f3⟩ := r_keeps_is (I := uI Iz z 0 0) (z := z)
    rw [z1] at f2
    have y1 : Iz1 (z + 1) = Iz (z + 1) := (f3 _ (by omega)).trans z1
    rw [f1, Option.bind_some]
    try dsimp only
    obtain ⟨e, he, S1⟩ := h.sm (Iz1 := Iz1) (a := x + 12) (by omega) h1.rs (fun q hq => q1 q (fun cc => hq (by unfold Scr; omega))) y1
    have hwx : ∀ w, P c 8 = some w ∨ P c 9 = some w → x < w := fun w hw => by have := hcc.1.2.2 w hw; omega
    have hx0 : Sd I1 (uI I1 x 10 a) x 10 := Sd.rf.up
    have hz0 : Sd Iz1 (uI Iz1 z 21 a) z 21 := Sd.rf.up
    obtain ⟨dn, I2, Iz2, g1, g2, hdn, ⟨⟨u2, e2, he2, S2⟩, s2, s3, s4, s5, s6, s7, s8⟩⟩ := sea_go (T := T) (I0 := I1) (Iz0 := Iz1) (e0 := e) (m := m) (g1 := a) (by omega) (by omega) hcx hwx m 0 2000 2000 0 (uI I1 x 10 a) (uI Iz1 z 21 a) (by omega) (by omega) (by omega) (by omega) ⟨⟨u, e, by omega, S1.sd hx0 hz0 (by omega) (by omega) hwx⟩, by rw [uI_e, uI_e], fun q a0 a1 a2 a3 a4 => hx0.1 q a0, fun j hj => hx0.2 j hj, fun q a0 a1 a2 a3 a4 a5 => hz0.1 q a0, fun j hj => hz0.2 j hj, fun k hk => by rw [hz0.1 _ (by omega)], fun _ => ⟨fun q hq => hx0.1 q hq, fun q hq => hz0.1 q hq⟩⟩
    have g1 : x_season_35 2000 T P x c a (nI m) 2000 0 0 (uI I1 x 10 a) = _ := g1
    have g2 : r_season_34 2000 z a (nI m) 2000 0 0 (uI Iz1 z 21 a) = _ := g2
    rw [g1, g2, Option.bind_some, Option.bind_some]
    try dsimp only
    have zk : ∀ k, k ≠ 0 → k ≠ 21 → Iz2 z k = Iz z k := fun k a0 a1 => by rw [s6 k a1, f3 _ (by omega), uI_k _ _ _ _ _ a0]
    have zz : ∀ q, q ≠ z → q ≠ z + 1 → (q ≤ z + 3 ∨ z + 18 ≤ q) → Iz2 q = Iz q := fun q a0 a1 a2 => by
      rw [s5 q a0 a1 (by omega) (by omega) (by omega) (by omega), f3 q (by omega), uI_row _ _ _ _ _ a0]
    have keep1 : KeepZ1 Iz Iz2 z := ⟨zz _ (by omega) (by omega) (by omega), zz _ (by omega) (by omega) (by omega), zz _ (by omega) (by omega) (by omega), zz _ (by omega) (by omega) (by omega), zk 5 (by decide) (by decide), zk 13 (by decide) (by decide), zk 14 (by decide) (by decide)⟩
    by_cases hr : dn = 0
    · subst hr
      rw [if_pos (show nI 0 ≤ 0 by decide), if_pos (show nI 0 ≤ 0 by decide)]
      obtain ⟨k5, k6⟩ := s8 rfl
      refine ⟨_, _, _, rfl, rfl, Or.inr ⟨⟨fun q hq => ?_, ?_, ?_, ?_, ?_⟩, ⟨?_, keep1⟩, KeepM.of (fun q a1 a2 a3 => ?_)⟩⟩
      · show I2 q = I q
        have hq' := hq
        unfold Scr at hq'
        rw [k5 q (by omega), q1 q (by omega)]
      · show I2 x 1 = I x 1
        rw [s4 1 (by decide), q1 _ (by omega)]
      · show I2 x 9 = I x 9
        rw [s4 9 (by decide), q1 _ (by omega)]
      · show I2 (x + 2) 0 = I (x + 2) 0
        rw [k5 _ (by omega), q1 _ (by omega)]
      · show I2 (x + 2) 1 = I (x + 2) 1
        rw [k5 _ (by omega), q1 _ (by omega)]
      · show Iz2 (z + 1) = Iz (z + 1)
        rw [k6 _ (by omega), y1]
      · show I2 q = I q
        rw [k5 q (by omega), q1 q (by omega)]
    · rw [if_neg (nI_nle (by omega) (by omega)), if_neg (nI_nle (by omega) (by omega))]
      obtain ⟨I3, Iz3, d', na', k1', k2', k3', k4', k5', k6'⟩ := deed_keep2 h (I1 := I2) (Iz1 := Iz2) (A1 := Iz2 (z + 1)) (u1 := u2) rfl (fun k hk => by rw [s7 k hk, y1]) S2.1 ⟨e2, by omega, S2.2.2.2.2.2.2.2⟩ S2.2.2.2.2.1
        (hB.same (fun q a b => s3 q (by omega) (by omega) (by omega) (by omega) (by omega)))
        (fun q a b => by
          have a' := a
          unfold Scr at a'
          rw [s3 q (by omega) (by omega) (by omega) (by omega) (by omega)]
          exact q1 q (by omega))
        (by rw [s4 1 (by decide)]; rw [q1 _ (by omega)]) (by rw [s4 9 (by decide)]; rw [q1 _ (by omega)]) (by rw [s3 _ (by omega) (by omega) (by omega) (by omega) (by omega)]; exact q1 _ (by omega))
        (fun k hk => by rw [s5 _ (by omega) (by omega) (by omega) (by omega) (by omega) (by omega)]; exact f2 k hk) keep1
      rw [k1', k2', Option.bind_some, Option.bind_some]
      refine ⟨_, _, _, rfl, rfl, Or.inl ⟨⟨_, _, _, _, _, _, _, k3'⟩, fun q a1 a2 a3 => ?_⟩⟩
      show I3 q = I q
      rw [k5' q (by omega) (by omega), s3 q (by omega) (by omega) (by omega) (by omega) (by omega), q1 q (by omega)]
  · have d1 : (decide (1 ≤ b) && decide (b ≤ 40)) = false := by
      by_cases c1 : 1 ≤ b <;> by_cases c2 : b ≤ 40 <;> simp [c1, c2]
      exact hb ⟨c1, c2⟩
    rw [d1, if_pos (show b2 false = 0 from rfl)]
    by_cases c1 : b < 1
    · rw [if_pos c1]
      exact ⟨_, _, _, rfl, rfl, Or.inr unq_0⟩
    · rw [if_neg c1, if_neg (fun c2 => hb ⟨Int32.not_lt.mp c1, c2⟩)]
      exact ⟨_, _, _, rfl, rfl, Or.inr unq_0⟩
end
