/-! wine, undo -/
theorem within19 (b : Int32) : r_within (Int32.toInt64 b) 1 9 = b2 (decide (1 ≤ b) && decide (b ≤ 9)) := within_i b 1 9
theorem fm_tab : ∀ na, na < 10 → ∀ j, j < 11 → floorMod (nI na - nI j) 10 = some (nI ((na + 10 - j) % 10)) := by decide +kernel
theorem r_undo_go {z e : Nat} {g : Int32} {A : Row} (he : e ≤ 9) (h65 : A 65 = nI e) : ∀ (j k f : Nat) (I : Nat → Nat → Int32), k + j = 33 → j < f → I (z + 1) = cpy A A 32 (66 + 33 * e) k → ∃ I1, r_undo_44 2000 z g f (nI k) I = some (nI 33, I1) ∧ I1 (z + 1) = cpy A A 32 (66 + 33 * e) 33 ∧ ∀ q, q ≠ z + 1 → I1 q = I q := by
  intro j
  induction j with
  | zero =>
    intro k f I hk hf hI
    obtain ⟨f, rfl⟩ : ∃ f', f = f' + 1 := ⟨f - 1, by omega⟩
    obtain rfl : k = 33 := by omega
    refine ⟨I, ?_, hI, fun _ _ => rfl⟩
    rw [r_undo_44, if_pos (by decide)]
  | succ j ih =>
    intro k f I hk hf hI
    obtain ⟨f, rfl⟩ : ∃ f', f = f' + 1 := ⟨f - 1, by omega⟩
    have e65 : I (z + 1) 65 = nI e := by rw [hI, cpy_out (by omega)]; exact h65
    rw [r_undo_44, if_neg (show ¬ (33 : Int32) ≤ nI k from nI_ge (b := 33) (by omega) (by decide)), show Int32.toNatClampNeg 65 = 65 from rfl, e65]
    rw [show (33 : Int32) * nI e = nI (33 * e) from pk_mul 33 e, show (66 : Int32) + nI (33 * e) = nI (66 + 33 * e) from nI_add 66 _, nI_add, show (32 : Int32) + nI k = nI (32 + k) from nI_add 32 k, chk_nI (by omega) (by decide), chk_nI (by omega) (by decide), nI_cl (by omega), nI_cl (by omega), nI_1]
    dsimp only
    obtain ⟨I1, e1, e2, e3⟩ := ih (k + 1) f (uI I (z + 1) (32 + k) (I (z + 1) (66 + 33 * e + k))) (by omega) (by omega) (by
      rw [uI_s, hI]
      exact cpy_suc (by rw [cpy_out (by omega)]))
    exact ⟨I1, e1, e2, fun q hq => by rw [e3 q hq, uI_row _ _ _ _ _ hq]⟩
section
variable {T : Nat → Option (Nat × Nat)} {I : Nat → Nat → Int32} {J : Nat → Nat → Int64} {P : Nat → Nat → Option Nat} {x nn c : Nat} {Iz : Nat → Nat → Int32} {Jz : Nat → Nat → Int64} {z N n u tn : Nat} {LT LP : Row → Int32} {d na v : Nat}
theorem whyWine_bad1 {Iz : Nat → Nat → Int32} {z n : Nat} {a : Int32} {b : Int64} (h : Iz (z + 1) 1 = nI n) (hn : n ≤ 6) (ha : a < 0 ∨ nI n ≤ a) : r_whyWine Iz z (Int32.toInt64 a) b = some 1 := by
  unfold r_whyWine
  rw [isPerson_bad h hn ha, Option.bind_some]
  rfl
theorem whyWine_bad2 {Iz : Nat → Nat → Int32} {z n p : Nat} {b : Int32} (h : Iz (z + 1) 1 = nI n) (hn : n ≤ 6) (hp : p < n) (hb : ¬ (1 ≤ b ∧ b ≤ 9)) : r_whyWine Iz z (Int32.toInt64 (nI p)) (Int32.toInt64 b) = some 1 := by
  unfold r_whyWine
  rw [isPerson_ok h hn hp, Option.bind_some, within19]
  have : (decide (1 ≤ b) && decide (b ≤ 9)) = false := by
    by_cases c1 : 1 ≤ b <;> by_cases c2 : b ≤ 9 <;> simp [c1, c2]
    exact hb ⟨c1, c2⟩
  rw [this]
  rfl
theorem whyWine_ok {Iz : Nat → Nat → Int32} {z n u p : Nat} {b : Int32} (h : Wf (Iz (z + 1)) n u) (hp : p < n) (hb : 1 ≤ b ∧ b ≤ 9) : r_whyWine Iz z (Int32.toInt64 (nI p)) (Int32.toInt64 b) = some (if ub u p = true then 0 else 2) := by
  have hn := h.1
  unfold r_whyWine
  rw [isPerson_ok h.2.1 hn hp, Option.bind_some, within19]
  have : (decide (1 ≤ b) && decide (b ≤ 9)) = true := by simp [hb.1, hb.2]
  rw [this]
  try dsimp only
  rw [if_neg (show ¬ (1 : Int32) = 0 by decide), if_neg (show ¬ b2 true = 0 by decide), i64_32, r_isUp_is h.2.2.1 h.u64 (by omega), Option.bind_some]
  cases ub u p <;> rfl
theorem wine_call (h : InvS T I J P x nn c Iz Jz z N n u tn LT LP d na v) (a b : Int32) : ∃ r I2 Iz2, x_wine I x c a b = some (r, I2) ∧ r_wine 2000 Iz z a b = some (r, Iz2) ∧ (Done T I I2 J P x nn c Iz2 Jz z N v ∨ Unch I I2 x c Iz Iz2 z) := by
  have hn := h.n6
  have hcx := (h.1 c (Or.inl rfl)).1.1
  obtain ⟨I1, e1, hB, q1, h1⟩ := before_is h
  unfold x_wine r_wine
  rw [e1, Option.bind_some]
  dsimp only
  have z1 : uI Iz z 0 0 (z + 1) = Iz (z + 1) := thr_row (by decide)
  have hw0 : Wf (uI Iz z 0 0 (z + 1)) n u := by rw [z1]; exact h.wf
  unfold x_doWine
  rcases arg_cases a n (by omega) with ha | ⟨p, hp, rfl⟩
  · rw [noPerson_bad h1.c0 hn ha, if_neg (show ¬ (1 : Int32) = 0 by decide), Option.bind_some, whyWine_bad1 hw0.2.1 hn ha, Option.bind_some]
    try dsimp only
    rw [if_neg (show ¬ (1 : Int32) = 0 by decide), if_neg (show ¬ (1 : Int32) = 0 by decide)]
    exact ⟨_, _, _, rfl, rfl, Or.inr (unch_b h q1)⟩
  rw [noPerson_ok h1.c0 hn hp, if_pos rfl]
  by_cases hb : 1 ≤ b ∧ b ≤ 9
  · rw [if_neg (Int32.not_lt.mpr hb.1), if_pos hb.2, whyWine_ok hw0 hp hb, Option.bind_some, s_isUp_is (h1.rs.2.1.trans h1.wf.2.2.1) h1.wf.u64 (by omega)]
    try dsimp only
    cases hu : ub u p with
    | false =>
      rw [b2_f, if_pos rfl, Option.bind_some, if_neg (show ¬ false = true by decide), if_neg (show ¬ (2 : Int32) = 0 by decide)]
      try dsimp only
      rw [if_neg (show ¬ (2 : Int32) = 0 by decide)]
      exact ⟨_, _, _, rfl, rfl, Or.inr (unch_b h q1)⟩
    | true =>
      rw [if_neg (show ¬ b2 true = 0 by decide), if_pos rfl, if_pos rfl, chk_nI (by omega) (by decide), nI_cl (by omega), Option.bind_some]
      try dsimp only
      rw [if_pos rfl]
      have R2 := s_win_is (v := b) h1.wf h1.rs hp
      have q2 : ∀ q, q ≠ x + 12 + 1 → uI I1 (x + 12 + 1) p (imin (I1 (x + 12 + 1) p + b) 99) q = I1 q := fun q hq => uI_row _ _ _ _ _ hq
      generalize uI I1 (x + 12 + 1) p (imin (I1 (x + 12 + 1) p + b) 99) = I2 at *
      obtain ⟨Iz1, f1, f2, f3⟩ := r_keeps_is (I := uI Iz z 0 0) (z := z)
      rw [z1] at f2
      have z2 : Iz1 (z + 1) = Iz (z + 1) := (f3 _ (by omega)).trans z1
      rw [f1, Option.bind_some]
      try dsimp only
      obtain ⟨Iz2, g1, g2, g3⟩ := r_drinks_is (I := Iz1) (z := z) (n := n) (u := u) (p := p) (v := b) (by rw [z2]; exact h.wf) hp
      rw [z2] at g2
      rw [g1, Option.bind_some]
      try dsimp only
      obtain ⟨I3, Iz3, d', na', k1, k2, k3, k4, k5, k6⟩ := deed_keep h (I1 := I2) (Iz1 := Iz2) (A1 := mwin (Iz (z + 1)) p b) (u1 := u) g2 (fun k hk => mwin_out (by omega)) h.wf.win (by
          obtain ⟨ev, he, h34, hs⟩ := h.2.1.2.2.2.2.2.2.2
          exact ⟨ev, by omega, by rw [mwin_out (by omega)]; exact h34, fun p hp => (hs p hp).row (mwin_out (by omega)) (mwin_out (by omega))⟩) R2
        (hB.same (fun q a b => q2 q (by omega)))
        (fun q a b => by rw [q2 q (by omega)]; exact q1 q (fun cc => a (by unfold Scr; omega)))
        (by rw [q2 _ (by omega)]; exact q1 _ (by omega)) (by rw [q2 _ (by omega)]; exact q1 _ (by omega))
        (fun k hk => by rw [g3 _ (by omega)]; exact f2 k hk)
        (thr_z1.tr (KeepZ1.of (fun q a b => by rw [g3 q a, f3 q (by omega)])))
      rw [k1, k2, Option.bind_some, Option.bind_some]
      try dsimp only
      rw [chk_nI (by omega) (by decide), show (41 : Int32) + nI p = nI (41 + p) from nI_add 41 p, chk_nI (by omega) (by decide), nI_cl (by omega), (k3.rs.2.2.2.2 p hp).1]
      refine ⟨_, _, _, rfl, rfl, Or.inl ⟨⟨_, _, _, _, _, _, _, k3⟩, fun q a1 a2 a3 => ?_⟩⟩
      rw [k5 q (by omega) (by omega), q2 q (by omega), q1 q (by omega)]
  · rw [whyWine_bad2 hw0.2.1 hn hp hb, Option.bind_some]
    try dsimp only
    rw [if_neg (show ¬ (1 : Int32) = 0 by decide)]
    by_cases c1 : b < 1
    · rw [if_pos c1, Option.bind_some]
      try dsimp only
      rw [if_neg (show ¬ (1 : Int32) = 0 by decide)]
      exact ⟨_, _, _, rfl, rfl, Or.inr (unch_b h q1)⟩
    · rw [if_neg c1, if_neg (fun c2 => hb ⟨Int32.not_lt.mp c1, c2⟩), Option.bind_some]
      try dsimp only
      rw [if_neg (show ¬ (1 : Int32) = 0 by decide)]
      exact ⟨_, _, _, rfl, rfl, Or.inr (unch_b h q1)⟩
theorem within1_10 (b : Int32) : r_within (Int32.toInt64 b) 1 10 = b2 (decide (1 ≤ b) && decide (b ≤ 10)) := within_i b 1 10
theorem undo_call (h : InvS T I J P x nn c Iz Jz z N n u tn LT LP d na v) (a : Int32) : ∃ r I2 Iz2, x_undo I x a = some (r, I2) ∧ r_undo 2000 Iz z a = some (r, Iz2) ∧ (Done T I I2 J P x nn c Iz2 Jz z N v ∨ Unch I I2 x c Iz Iz2 z) := by
  have hn := h.n6
  have hcx := (h.1 c (Or.inl rfl)).1.1
  obtain ⟨p1, p2, p3, p4, p5, p6⟩ := h.2.2.1
  have z1 : uI Iz z 0 0 (z + 1) = Iz (z + 1) := thr_row (by decide)
  have un : Unch I I x c Iz (uI Iz z 0 0) z := ⟨KeepX.rf, KeepZ.thr, fun _ _ _ => rfl⟩
  unfold x_undo r_undo
  try dsimp only
  rw [show Int32.toNatClampNeg 65 = 65 from rfl, z1, p3, p5, within1_10]
  by_cases ha : a < 1
  · rw [if_pos ha]
    have : decide (1 ≤ a) = false := decide_eq_false (Int32.not_le.mpr ha)
    rw [this]
    exact ⟨_, _, _, rfl, rfl, Or.inr un⟩
  rw [if_neg ha]
  by_cases hd : a ≤ nI d
  · obtain ⟨j, hj, rfl⟩ : ∃ j : Nat, j ≤ d ∧ a = nI j := by
      rcases arg_cases a (d + 1) (by omega) with (hb | hb) | ⟨j, hj, e⟩
      · exact absurd (Int32.lt_trans hb (by decide)) ha
      · exfalso
        rw [i32_le, nI_toInt (by omega)] at hb hd
        omega
      · exact ⟨j, by omega, e⟩
    have hj1 : 1 ≤ j := by
      rcases Nat.eq_zero_or_pos j with e | e
      · subst e
        exact absurd (show nI 0 < 1 by decide) ha
      · exact e
    have e1 : (decide (1 ≤ nI j) && decide (nI j ≤ 10)) = true := by
      have a1 : (1 : Int32) ≤ nI j := nI_le (a := 1) hj1 (by omega)
      have a2 : nI j ≤ (10 : Int32) := nI_le (b := 10) (by omega) (by decide)
      simp [a1, a2]
    rw [if_pos hd, e1, if_neg (show ¬ b2 true = 0 by decide), if_pos hd]
    unfold pa_bringBack
    rw [p4, fm_tab na p2 j (by omega), Option.bind_some]
    try dsimp only
    have hm : (na + 10 - j) % 10 < 10 := Nat.mod_lt _ (by decide)
    rw [uI_k _ _ _ _ _ (by decide), uI_e, uI_k _ _ _ _ _ (by decide), p5, pk_sub hj, chk_nI hm (by decide), nI_cl (by omega)]
    obtain ⟨uj, w1, w2, w3⟩ := p6 (d - j) (by omega)
    have ei : (na + 10 - d + (d - j)) % 10 = (na + 10 - j) % 10 := by congr 1; omega
    rw [ei] at w2
    generalize hna : (na + 10 - j) % 10 = na' at *
    have q2 : ∀ q, q ≠ x + 19 → uI (uI I (x + 19) 1 (nI na')) (x + 19) 2 (nI (d - j)) q = I q := fun q hq => by rw [uI_row _ _ _ _ _ hq, uI_row _ _ _ _ _ hq]
    have f1 : uI (uI I (x + 19) 1 (nI na')) (x + 19) 2 (nI (d - j)) (x + 19) 1 = nI na' := by rw [uI_k _ _ _ _ _ (by decide), uI_e]
    have f2 : uI (uI I (x + 19) 1 (nI na')) (x + 19) 2 (nI (d - j)) (x + 19) 2 = nI (d - j) := uI_e _ _ _ _
    generalize uI (uI I (x + 19) 1 (nI na')) (x + 19) 2 (nI (d - j)) = I1 at *
    obtain ⟨I2, e2, R2, q3⟩ := (w2.same (I' := I1) (fun q a b => q2 q (by omega))).copy (a := x + 12) hn w1.2.2.2.2 (by omega)
    rw [e2, Option.bind_some, Option.bind_some]
    try dsimp only
    obtain ⟨Iz2, g1, g2, g3⟩ := r_undo_go (z := z) (e := d - j) (g := nI j) (A := upd (Iz (z + 1)) 65 (nI (d - j))) (by omega) pk_us 33 0 2000 (uI (uI Iz z 0 0) (z + 1) 65 (nI (d - j))) (by omega) (by omega) (by rw [uI_s, z1]; exact cpy_0.symm)
    have g1 : r_undo_44 2000 z (nI j) 2000 0 _ = _ := g1
    rw [g1, Option.bind_some]
    try dsimp only
    have b65 : Iz2 (z + 1) 65 = nI (d - j) := by rw [g2, cpy_out (by omega), pk_us]
    have bo : ∀ k, ¬ (32 ≤ k ∧ k < 66) → Iz2 (z + 1) k = Iz (z + 1) k := fun k hk => by rw [g2, cpy_out (by omega), pk_un (by omega)]
    have bi : ∀ k, 32 ≤ k → k < 65 → Iz2 (z + 1) k = prow (Iz (z + 1)) (d - j) k := fun k a b => by
      rw [g2, cpy_in (by omega), pk_un (by omega)]
      unfold prow
      rw [cpy_in (by omega)]
    have hx9 : I2 x 9 = nI v := by rw [q3 _ (by omega), q2 _ (by omega)]; exact h.2.2.2.2.2.2.2.1
    have h19 : I2 (x + 19) = I1 (x + 19) := q3 _ (by omega)
    rw [uI_o _ _ _ _ _ _ (by omega), h19, f2, b65, hx9, nI_1]
    refine ⟨_, _, _, rfl, rfl, Or.inl ⟨⟨n, uj, tn, LT, LP, d - j, na', h.turn (by omega) (fun k hk => bo k (by omega)) (w1.row ((bo 1 (by omega)).trans (cpy_out (by omega)).symm) (fun k a b => bi k a (by omega))) (w3.row hn (by omega) bi) ?_ ?_ (fun q a b => ?_) ?_ (uI_e _ _ _ _) ?_ ?_ ?_ ?_⟩, fun q a1 a2 a3 => ?_⟩⟩
    · refine (R2.row hn bi).same (fun q a b => uI_row _ _ _ _ _ (by omega))
    · have r19 : uI I2 x 9 (nI (v + 1)) (x + 19) = I2 (x + 19) := uI_row _ _ _ _ _ (by omega)
      refine ⟨by omega, hm, b65, by rw [r19, h19]; exact f1, by rw [r19, h19]; exact f2, fun i hi => ?_⟩
      obtain ⟨ui, y1, y2, y3⟩ := p6 i (by omega)
      have pr : ∀ k, 32 ≤ k → k < 65 → prow (Iz2 (z + 1)) i k = prow (Iz (z + 1)) i k := fun k a b => by
        unfold prow
        rw [cpy_in (by omega), cpy_in (by omega), bo _ (by omega)]
      have pr1 : prow (Iz2 (z + 1)) i 1 = prow (Iz (z + 1)) i 1 := by
        unfold prow
        rw [cpy_out (by omega), cpy_out (by omega), bo _ (by omega)]
      have ei2 : (na' + 10 - (d - j) + i) % 10 = (na + 10 - d + i) % 10 := by omega
      rw [ei2]
      have hm2 : (na + 10 - d + i) % 10 < 10 := Nat.mod_lt _ (by decide)
      exact ⟨ui, y1.row pr1 (fun k a b => pr k a (by omega)), (y2.row hn pr).same (fun q a b => by rw [uI_row _ _ _ _ _ (by omega), q3 q (by omega), q2 q (by omega)]), y3.row hn (by omega) pr⟩
    · rw [uI_row _ _ _ _ _ (fun cc => a (by unfold Scr; omega)), q3 q (by omega), q2 q (by omega)]
    · rw [uI_k _ _ _ _ _ (by decide), q3 _ (by omega), q2 _ (by omega)]
    · have := h.2.2.2.2.2.2.2.2
      omega
    · rw [uI_o _ _ _ _ _ _ (by omega), q3 _ (by omega), q2 _ (by omega)]
    · rw [uI_o _ _ _ _ _ _ (by omega), q3 _ (by omega), q2 _ (by omega)]
    · exact thr_z1.tr (KeepZ1.of (fun q a b => by rw [g3 q a, uI_row _ _ _ _ _ a]))
    · rw [uI_row _ _ _ _ _ (by omega), q3 q (by omega), q2 q (by omega)]
  · rw [if_neg hd, if_neg hd]
    split
    · exact ⟨_, _, _, rfl, rfl, Or.inr un⟩
    · exact ⟨_, _, _, rfl, rfl, Or.inr un⟩
end
