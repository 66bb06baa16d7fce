theorem i64_32 (a : Int32) : Int64.toInt32 (Int32.toInt64 a) = a := by
  apply Int32.toInt_inj.mp
  rw [Int64.toInt_toInt32, Int32.toInt_toInt64]
  have h1 := Int32.le_toInt a
  have h2 := Int32.toInt_lt a
  exact Int.bmod_eq_of_le (by omega) (by omega)
theorem Ev.seat {A : Row} {n u p e : Nat} (hn : n ≤ 6) (hp : p < n) (h34 : A 34 = nI e) (hs : ∀ p, p < n → Pb A e p) : mseat A u p 34 = nI (e + 1) ∧ ∀ q, q < n → Pb (mseat A u p) (e + 1) q := by
  refine ⟨?_, fun q hq => ?_⟩
  · unfold mseat
    simp (disch := omega) only [pk_un, pk_us]
    rw [h34, nI_1]
  · obtain ⟨s, a1, a2, a3, a4⟩ := hs q hq
    have e47 : mseat A u p (47 + q) = A (47 + q) := by
      unfold mseat
      simp (disch := omega) only [pk_un]
    by_cases c : q = p
    · subst c
      have e53 : mseat A u q (53 + q) = A 34 + 1 := by
        unfold mseat
        simp (disch := omega) only [pk_un, pk_us]
      exact ⟨e + 1, Nat.le_refl _, by rw [e53, h34, nI_1], by rw [e47]; omega, by rw [e47]; omega⟩
    · have e53 : mseat A u p (53 + q) = A (53 + q) := by
        unfold mseat
        simp (disch := omega) only [pk_un]
      exact ⟨s, by omega, by rw [e53]; exact a2, by rw [e47]; omega, by rw [e47]; omega⟩
theorem Pb.eve {A : Row} {n p : Nat} (hp : p < 6) : Pb (meve A n) 0 p := ⟨0, Nat.le_refl _, by rw [meve_z (by omega) (by omega)]; rfl, by rw [meve_z (by omega) (by omega)]; decide, by rw [meve_z (by omega) (by omega)]; decide⟩
theorem mseat_out2 {A : Row} {u p k : Nat} (hp : p < 6) (hk : ¬ (32 ≤ k ∧ k < 65)) : mseat A u p k = A k := mseat_out hp (by unfold inst; omega)
section
variable {T : Nat → Option (Nat × Nat)} {I : Nat → Nat → Int32} {J : Nat → Nat → Int64} {P : Nat → Nat → Option Nat} {x nn c : Nat} {Iz : Nat → Nat → Int32} {Jz : Nat → Nat → Int64} {z N n u tn : Nat} {LT LP : Row → Int32} {d na v : Nat}
def Unch (I I2 : Nat → Nat → Int32) (x c : Nat) (Iz Iz2 : Nat → Nat → Int32) (z : Nat) : Prop := KeepX I I2 x c ∧ KeepZ Iz Iz2 z ∧ ∀ q, x + 101 ≤ q → q < x + 224 → I2 q = I q
theorem whySit_bad {Iz : Nat → Nat → Int32} {z n : Nat} {a : Int32} (h : Iz (z + 1) 1 = nI n) (hn : n ≤ 6) (ha : a < 0 ∨ nI n ≤ a) : r_whySit Iz z (Int32.toInt64 a) = some 1 := by
  unfold r_whySit
  rw [isPerson_bad h hn ha, Option.bind_some]
  rfl
theorem whySit_ok {Iz : Nat → Nat → Int32} {z n u p : Nat} (h : Wf (Iz (z + 1)) n u) (hp : p < n) : r_whySit Iz z (Int32.toInt64 (nI p)) = some (if ub u p = true then 0 else 2) := by
  have hn := h.1
  unfold r_whySit
  rw [isPerson_ok h.2.1 hn hp, Option.bind_some]
  dsimp only
  rw [if_neg (show ¬ (1 : Int32) = 0 by decide), i64_32, r_isUp_is h.2.2.1 h.u64 (by omega), Option.bind_some]
  cases ub u p <;> rfl
theorem unch_b {I1 : Nat → Nat → Int32} (h : InvS T I J P x nn c Iz Jz z N n u tn LT LP d na v) (q1 : ∀ q, ¬ (x + 94 ≤ q ∧ q ≤ x + 100) → I1 q = I q) : Unch I I1 x c Iz (uI Iz z 0 0) z :=
  ⟨KeepX.of (fun q hq => q1 q (fun cc => hq (by unfold Scr; omega))) (q1 _ (by omega)) (q1 _ (by omega)), KeepZ.thr, fun q a1 a2 => q1 q (by omega)⟩
theorem sit_call (h : InvS T I J P x nn c Iz Jz z N n u tn LT LP d na v) (a : Int32) : ∃ r I2 Iz2, x_sit 2000 I x c a = some (r, I2) ∧ r_sit 2000 Iz z a = some (r, Iz2) ∧ (Done T I I2 J P x nn c Iz2 Jz z N v ∨ Unch I I2 x c Iz Iz2 z) := by
  have hn := h.n6
  have hcx := (h.1 c (Or.inl rfl)).1.1
  obtain ⟨I1, e1, hB, q1, h1⟩ := before_is h
  unfold x_sit r_sit
  rw [e1, Option.bind_some]
  dsimp only
  have z1 : uI Iz z 0 0 (z + 1) = Iz (z + 1) := thr_row (by decide)
  have hw0 : Wf (uI Iz z 0 0 (z + 1)) n u := by rw [z1]; exact h.wf
  unfold x_doSit
  rcases arg_cases a n (by omega) with ha | ⟨p, hp, rfl⟩
  · rw [noPerson_bad h1.c0 hn ha, if_neg (show ¬ (1 : Int32) = 0 by decide), Option.bind_some, whySit_bad hw0.2.1 hn ha, Option.bind_some]
    try dsimp only
    rw [if_neg (show ¬ (1 : Int32) = 0 by decide), if_neg (show ¬ (1 : Int32) = 0 by decide)]
    exact ⟨_, _, _, rfl, rfl, Or.inr (unch_b h q1)⟩
  rw [noPerson_ok h1.c0 hn hp, if_pos rfl, whySit_ok hw0 hp, Option.bind_some, s_isUp_is (h1.rs.2.1.trans h1.wf.2.2.1) h1.wf.u64 (by omega)]
  try dsimp only
  cases hb : ub u p with
  | false =>
    rw [b2_f, if_pos rfl, Option.bind_some, if_neg (show ¬ false = true by decide), if_neg (show ¬ (2 : Int32) = 0 by decide)]
    try dsimp only
    rw [if_neg (show ¬ (2 : Int32) = 0 by decide)]
    exact ⟨_, _, _, rfl, rfl, Or.inr (unch_b h q1)⟩
  | true =>
    rw [if_neg (show ¬ b2 true = 0 by decide), if_pos rfl, if_pos rfl]
    obtain ⟨I2, e2, R2, q2⟩ := s_seat_is h1.wf h1.rs hp
    rw [e2, Option.bind_some, Option.bind_some]
    try dsimp only
    rw [if_pos rfl]
    obtain ⟨Iz1, f1, f2, f3⟩ := r_keeps_is (I := uI Iz z 0 0) (z := z)
    rw [z1] at f2
    have z2 : Iz1 (z + 1) = Iz (z + 1) := (f3 _ (by omega)).trans z1
    rw [f1, Option.bind_some]
    try dsimp only
    obtain ⟨Iz2, g1, g2, g3⟩ := r_sitsOwn_is (I := Iz1) (z := z) (n := n) (u := u) (p := p) (by rw [z2]; exact h.wf) hp
    rw [z2] at g2
    rw [g1, Option.bind_some]
    try dsimp only
    obtain ⟨e, he, h34, hs⟩ := h.2.1.2.2.2.2.2.2.2
    have ev := Ev.seat (u := u) hn hp h34 hs
    obtain ⟨I3, Iz3, d', na', k1, k2, k3, k4, k5, k6⟩ := deed_keep h (I1 := I2) (Iz1 := Iz2) (A1 := mseat (Iz (z + 1)) u p) (u1 := clr u p) g2 (fun k hk => mseat_out2 (by omega) hk) (h.wf.seat hp) ⟨e + 1, by omega, ev.1, ev.2⟩ R2
      (hB.same (fun q a b => q2 q (by omega)))
      (fun q a b => by rw [q2 q (by omega)]; exact q1 q (fun cc => a (by unfold Scr; omega)))
      (by rw [q2 _ (by omega)]; exact q1 _ (by omega)) (by rw [q2 _ (by omega)]; exact q1 _ (by omega))
      (fun k hk => by rw [g3 _ (by omega)]; exact f2 k hk)
      (thr_z1.tr (KeepZ1.of (fun q a b => by rw [g3 q a, f3 q (by omega)])))
    rw [k1, k2, Option.bind_some, Option.bind_some]
    try dsimp only
    rw [s_placeOf_is k3.wf k3.rs hp, r_placeOf_is k3.wf hp, Option.bind_some, Option.bind_some]
    refine ⟨_, _, _, rfl, rfl, Or.inl ⟨⟨_, _, _, _, _, _, _, k3⟩, fun q a1 a2 a3 => ?_⟩⟩
    rw [k5 q (by omega) (by omega), q2 q (by omega), q1 q (by omega)]
theorem areTwo_bad1 {Iz : Nat → Nat → Int32} {z n : Nat} {a b : Int32} (h : Iz (z + 1) 1 = nI n) (hn : n ≤ 6) (ha : a < 0 ∨ nI n ≤ a) : r_areTwo Iz z (Int32.toInt64 a) (Int32.toInt64 b) = some 0 := by
  unfold r_areTwo
  rw [isPerson_bad h hn ha, Option.bind_some]
  rfl
theorem areTwo_bad2 {Iz : Nat → Nat → Int32} {z n p : Nat} {b : Int32} (h : Iz (z + 1) 1 = nI n) (hn : n ≤ 6) (hp : p < n) (hb : b < 0 ∨ nI n ≤ b) : r_areTwo Iz z (Int32.toInt64 (nI p)) (Int32.toInt64 b) = some 0 := by
  unfold r_areTwo
  rw [isPerson_ok h hn hp, isPerson_bad h hn hb, Option.bind_some]
  rfl
theorem areTwo_ok {Iz : Nat → Nat → Int32} {z n p q : Nat} (h : Iz (z + 1) 1 = nI n) (hn : n ≤ 6) (hp : p < n) (hq : q < n) : r_areTwo Iz z (Int32.toInt64 (nI p)) (Int32.toInt64 (nI q)) = some (if p = q then 0 else 1) := by
  unfold r_areTwo
  rw [isPerson_ok h hn hp, isPerson_ok h hn hq, Option.bind_some, Option.bind_some]
  try dsimp only
  rw [if_neg (show ¬ (1 : Int32) = 0 by decide), if_neg (show ¬ (1 : Int32) = 0 by decide)]
  by_cases e : p = q
  · rw [if_pos e, if_pos ((lg_cmp_eq _ _).mpr (by rw [e]))]
  · rw [if_neg e, if_neg (fun cc => e ((nI_eq (by omega) (by omega)).mp ((wide_eq _ _).mp ((lg_cmp_eq _ _).mp cc))))]
theorem change_call (h : InvS T I J P x nn c Iz Jz z N n u tn LT LP d na v) (a b : Int32) : ∃ r I2 Iz2, x_change I x c a b = some (r, I2) ∧ r_change 2000 Iz z a b = some (r, Iz2) ∧ (Done T I I2 J P x nn c Iz2 Jz z N v ∨ Unch I I2 x c Iz Iz2 z) := by
  have hn := h.n6
  have hcx := (h.1 c (Or.inl rfl)).1.1
  obtain ⟨I1, e1, hB, q1, h1⟩ := before_is h
  unfold x_change r_change
  rw [e1, Option.bind_some]
  dsimp only
  have z1 : uI Iz z 0 0 (z + 1) = Iz (z + 1) := thr_row (by decide)
  have hw0 : Wf (uI Iz z 0 0 (z + 1)) n u := by rw [z1]; exact h.wf
  have m11 : (-10 : Int32) - 1 = -11 := by decide
  unfold x_doChange
  rcases arg_cases a n (by omega) with ha | ⟨p, hp, rfl⟩
  · rw [noPerson_bad h1.c0 hn ha, if_neg (show ¬ (1 : Int32) = 0 by decide), Option.bind_some, areTwo_bad1 hw0.2.1 hn ha, Option.bind_some]
    try dsimp only
    rw [if_neg (show ¬ (1 : Int32) = 0 by decide), if_pos rfl, m11]
    exact ⟨_, _, _, rfl, rfl, Or.inr (unch_b h q1)⟩
  rw [noPerson_ok h1.c0 hn hp, if_pos rfl]
  rcases arg_cases b n (by omega) with hb | ⟨q, hq, rfl⟩
  · rw [noPerson_bad h1.c0 hn hb, if_neg (show ¬ (1 : Int32) = 0 by decide), Option.bind_some, areTwo_bad2 hw0.2.1 hn hp hb, Option.bind_some]
    try dsimp only
    rw [if_neg (show ¬ (1 : Int32) = 0 by decide), if_pos rfl, m11]
    exact ⟨_, _, _, rfl, rfl, Or.inr (unch_b h q1)⟩
  rw [noPerson_ok h1.c0 hn hq, if_pos rfl, areTwo_ok hw0.2.1 hn hp hq, Option.bind_some]
  try dsimp only
  by_cases e : p = q
  · rw [if_pos (by rw [e]), if_pos e, Option.bind_some, if_pos rfl]
    try dsimp only
    rw [if_neg (show ¬ (1 : Int32) = 0 by decide), m11]
    exact ⟨_, _, _, rfl, rfl, Or.inr (unch_b h q1)⟩
  · rw [if_neg (fun cc => e ((nI_eq (by omega) (by omega)).mp cc)), if_neg e, if_neg (show ¬ (1 : Int32) = 0 by decide)]
    obtain ⟨I2, e2, R2, q2⟩ := s_exchange_is h1.wf h1.rs hp hq e
    rw [e2, Option.bind_some, Option.bind_some]
    try dsimp only
    rw [if_pos rfl]
    obtain ⟨Iz1, f1, f2, f3⟩ := r_keeps_is (I := uI Iz z 0 0) (z := z)
    rw [z1] at f2
    have z2 : Iz1 (z + 1) = Iz (z + 1) := (f3 _ (by omega)).trans z1
    rw [f1, Option.bind_some]
    try dsimp only
    obtain ⟨Iz2, g1, g2, g3⟩ := r_changes_is (I := Iz1) (z := z) (n := n) (u := u) (p := p) (q := q) (by rw [z2]; exact h.wf) hp hq
    rw [z2] at g2
    rw [g1, Option.bind_some]
    try dsimp only
    obtain ⟨I3, Iz3, d', na', k1, k2, k3, k4, k5, k6⟩ := deed_keep h (I1 := I2) (Iz1 := Iz2) (A1 := mchg (Iz (z + 1)) p q) (u1 := u) g2 (fun k hk => mchg_out (by omega)) (h.wf.chg hp hq e) (by
        obtain ⟨ev, he, h34, hs⟩ := h.2.1.2.2.2.2.2.2.2
        exact ⟨ev, by omega, by rw [mchg_out (by omega)]; exact h34, fun p hp => (hs p hp).row (mchg_out (by omega)) (mchg_out (by omega))⟩) R2
      (hB.same (fun q a b => q2 q (by omega)))
      (fun q a b => by rw [q2 q (by omega)]; exact q1 q (fun cc => a (by unfold Scr; omega)))
      (by rw [q2 _ (by omega)]; exact q1 _ (by omega)) (by rw [q2 _ (by omega)]; exact q1 _ (by omega))
      (fun k hk => by rw [g3 _ (by omega)]; exact f2 k hk)
      (thr_z1.tr (KeepZ1.of (fun q a b => by rw [g3 q a, f3 q (by omega)])))
    rw [k1, k2, Option.bind_some, Option.bind_some]
    try dsimp only
    rw [chk_nI (by omega) (by decide), show (35 : Int32) + nI p = nI (35 + p) from nI_add 35 p, chk_nI (by omega) (by decide), nI_cl (by omega), nI_cl (by omega), (k3.rs.2.2.2.2 p hp).2.2.2.2.1]
    refine ⟨_, _, _, rfl, rfl, Or.inl ⟨⟨_, _, _, _, _, _, _, k3⟩, fun q a1 a2 a3 => ?_⟩⟩
    rw [k5 q (by omega) (by omega), q2 q (by omega), q1 q (by omega)]
theorem evening_call (h : InvS T I J P x nn c Iz Jz z N n u tn LT LP d na v) : ∃ r I2 Iz2, x_evening 2000 I x c = some (r, I2) ∧ r_evening 2000 Iz z = some (r, Iz2) ∧ Done T I I2 J P x nn c Iz2 Jz z N v := by
  have hn := h.n6
  have hcx := (h.1 c (Or.inl rfl)).1.1
  obtain ⟨I1, e1, hB, q1, h1⟩ := before_is h
  unfold x_evening r_evening
  rw [e1, Option.bind_some]
  dsimp only
  have z1 : uI Iz z 0 0 (z + 1) = Iz (z + 1) := thr_row (by decide)
  obtain ⟨I2, e2, R2, q2⟩ := s_again_is (c := c) h1.wf h1.rs (fun p hp => (h1.cc.1.2.2.2.2.1 p hp).1) (by omega)
  rw [e2, Option.bind_some]
  try dsimp only
  obtain ⟨Iz1, f1, f2, f3⟩ := r_keeps_is (I := uI Iz z 0 0) (z := z)
  rw [z1] at f2
  have z2 : Iz1 (z + 1) = Iz (z + 1) := (f3 _ (by omega)).trans z1
  rw [f1, Option.bind_some]
  try dsimp only
  obtain ⟨Iz2, g1, g2, g3⟩ := r_evenings_is (I := Iz1) (z := z) (n := n) (u := u) (by rw [z2]; exact h.wf)
  rw [z2] at g2
  rw [g1, Option.bind_some]
  try dsimp only
  obtain ⟨I3, Iz3, d', na', k1, k2, k3, k4, k5, k6⟩ := deed_keep h (I1 := I2) (Iz1 := Iz2) (A1 := meve (Iz (z + 1)) n) (u1 := 2 ^ n - 1) g2 (fun k hk => meve_out (by unfold inst; omega)) h.wf.eve ⟨0, by omega, meve_34, fun p hp => Pb.eve (by omega)⟩ R2
    (hB.same (fun q a b => q2 q (by omega)))
    (fun q a b => by rw [q2 q (by omega)]; exact q1 q (fun cc => a (by unfold Scr; omega)))
    (by rw [q2 _ (by omega)]; exact q1 _ (by omega)) (by rw [q2 _ (by omega)]; exact q1 _ (by omega))
    (fun k hk => by rw [g3 _ (by omega)]; exact f2 k hk)
    (thr_z1.tr (KeepZ1.of (fun q a b => by rw [g3 q a, f3 q (by omega)])))
  rw [k1, k2, Option.bind_some, Option.bind_some]
  try dsimp only
  have er : I3 (x + 94) 2 = Iz3 (z + 7) (Int32.toNatClampNeg 1) := by
    rw [k5 _ (by omega) (by omega), q2 _ (by omega), hB.2.2.1, k6 _ (by omega), g3 _ (by omega)]
    exact (f2 1 (by decide)).symm
  rw [er]
  refine ⟨_, _, _, rfl, rfl, ⟨⟨_, _, _, _, _, _, _, k3⟩, fun q a1 a2 a3 => ?_⟩⟩
  rw [k5 q (by omega) (by omega), q2 q (by omega), q1 q (by omega)]
end
