section
variable {T : Nat → Option (Nat × Nat)} {I : Nat → Nat → Int32} {J : Nat → Nat → Int64} {P : Nat → Nat → Option Nat} {x nn c : Nat} {Iz : Nat → Nat → Int32} {Jz : Nat → Nat → Int64} {z N n u tn : Nat} {LT LP : Row → Int32} {d na v : Nat}
theorem unq_x {I2 : Nat → Nat → Int32} (hcx : c = x + 4 ∨ x + 224 ≤ c) (xq : ∀ q, ¬ (x + 101 ≤ q ∧ q ≤ x + 107) → q ≠ x + 108 → q ≠ x + 109 → q ≠ c + 5 → q ≠ c + 6 → q ≠ c + 7 → I2 q = I q) (x8 : ∀ k, k ≠ 1 → I2 (x + 108) k = I (x + 108) k) : KeepX I I2 x c ∧ KeepM I I2 x := by
  refine ⟨KeepX.of (fun q hq => ?_) (xq _ (by omega) (by omega) (by omega) (by omega) (by omega) (by omega)) (xq _ (by omega) (by omega) (by omega) (by omega) (by omega) (by omega)), ?_⟩
  · unfold Scr at hq
    exact xq q (by omega) (by omega) (by omega) (by omega) (by omega) (by omega)
  · have g : ∀ q, x + 110 ≤ q → q < x + 224 → I2 q = I q := fun q a b => xq q (by omega) (by omega) (by omega) (by omega) (by omega) (by omega)
    exact ⟨g _ (by omega) (by omega), g _ (by omega) (by omega), g _ (by omega) (by omega), g _ (by omega) (by omega), g _ (by omega) (by omega), g _ (by omega) (by omega), g _ (by omega) (by omega), x8 4 (by decide), by rw [g _ (by omega) (by omega)], by rw [g _ (by omega) (by omega)]⟩
/-- the reference's state is kept, changed, and again as it was -/
def Kz (Iz Iz1 : Nat → Nat → Int32) (z : Nat) : Prop := (∀ k, k < 33 → Iz1 (z + 7) k = Iz (z + 1) (32 + k)) ∧ Iz1 (z + 1) = Iz (z + 1) ∧ (∀ q, q ≠ z → q ≠ z + 5 → q ≠ z + 6 → q ≠ z + 7 → q ≠ z + 8 → q ≠ z + 9 → Iz1 q = Iz q) ∧ ∀ k, k ≠ 0 → Iz1 z k = Iz z k
theorem Kz.keep {Iz1 : Nat → Nat → Int32} (h : Kz Iz Iz1 z) : KeepZ Iz Iz1 z := by
  obtain ⟨h1, h2, h3, h4⟩ := h
  exact ⟨h2, h3 _ (by omega) (by omega) (by omega) (by omega) (by omega) (by omega), h3 _ (by omega) (by omega) (by omega) (by omega) (by omega) (by omega), h3 _ (by omega) (by omega) (by omega) (by omega) (by omega) (by omega), h3 _ (by omega) (by omega) (by omega) (by omega) (by omega) (by omega), h4 5 (by decide), h4 13 (by decide), h4 14 (by decide)⟩
theorem kz_start : ∃ Iz1, r_keeps 2000 (uI Iz z 0 0) z = some Iz1 ∧ Kz Iz Iz1 z := by
  obtain ⟨Iz1, f1, f2, f3⟩ := r_keeps_is (I := uI Iz z 0 0) (z := z)
  refine ⟨Iz1, f1, fun k hk => by rw [f2 k hk, thr_row (by decide)], by rw [f3 _ (by omega), thr_row (by decide)], fun q a0 a5 a6 a7 a8 a9 => by rw [f3 q a7, uI_row _ _ _ _ _ a0], fun k hk => by rw [f3 _ (by omega), uI_k _ _ _ _ _ hk]⟩
theorem kz_back {Iz1 Iz2 : Nat → Nat → Int32} (h : Kz Iz Iz1 z) (fr : Fr Iz1 Iz2 z) : ∃ Iz3, r_isAgain 2000 Iz2 z = some Iz3 ∧ Kz Iz Iz3 z := by
  obtain ⟨h1, h2, h3, h4⟩ := h
  obtain ⟨Iz3, y2, y3, y4⟩ := r_isAgain_is (I := Iz2) (z := z)
  have w7 : Iz2 (z + 7) = Iz1 (z + 7) := fr.1 _ (by omega) (by omega) (by omega) (by omega) (by omega)
  refine ⟨Iz3, y2, fun k hk => by rw [y4 _ (by omega), w7]; exact h1 k hk, ?_, fun q a0 a5 a6 a7 a8 a9 => ?_, fun k hk => ?_⟩
  · rw [y3]
    refine mbk_same (fun k hk => ?_) (fun k hk => by rw [w7]; exact h1 k hk)
    rw [fr.2 k hk, h2]
  · by_cases e : q = z + 1
    · subst e
      rw [y3]
      refine mbk_same (fun k hk => ?_) (fun k hk => by rw [w7]; exact h1 k hk)
      rw [fr.2 k hk, h2]
    · rw [y4 q e, fr.1 q e a5 a6 a8 a9, h3 q a0 a5 a6 a7 a8 a9]
  · rw [y4 _ (by omega), fr.1 _ (by omega) (by omega) (by omega) (by omega) (by omega), h4 k hk]
/-- a trial of a night: the class's State and the reference's row -/
theorem trial_is (h : InvS T I J P x nn c Iz Jz z N n u tn LT LP d na v) {I0 I1 Iz1 : Nat → Nat → Int32} {t m : Nat} {tl : Nat → Nat} (hr : ∀ q, ¬ (x + 101 ≤ q ∧ q ≤ x + 107) → q ≠ x + 108 → q ≠ x + 109 → q ≠ c + 5 → q ≠ c + 6 → q ≠ c + 7 → I1 q = I q) (h8 : ∀ k, k ≠ 1 → I1 (x + 108) k = I (x + 108) k) (hN : Ngt I1 x Iz1 Jz z t m tn tl) (hz : Iz1 (z + 1) = Iz (z + 1)) :
    ∃ e I2, s_copyFrom I1 (x + 101) (x + 12) = some I2 ∧ e ≤ 50 * N ∧ Sm T I2 P (x + 101) c Iz1 z n u tn LT LP e true ∧ Ngt I2 x Iz1 Jz z t m tn tl ∧ (∀ q, ¬ (x + 101 ≤ q ∧ q ≤ x + 107) → q ≠ x + 108 → q ≠ x + 109 → q ≠ c + 5 → q ≠ c + 6 → q ≠ c + 7 → I2 q = I q) ∧ ∀ k, k ≠ 1 → I2 (x + 108) k = I (x + 108) k := by
  have hcx := (h.1 c (Or.inl rfl)).1.1
  obtain ⟨I2, e1, R2, q2⟩ := (h.rs.same (I' := I1) (fun q a b => hr q (by omega) (by omega) (by omega) (by omega) (by omega) (by omega))).copy (a := x + 101) h.n6 h.wf.2.2.2.2 (by omega)
  have xq : ∀ q, ¬ (x + 101 ≤ q ∧ q ≤ x + 107) → q ≠ x + 108 → q ≠ x + 109 → q ≠ c + 5 → q ≠ c + 6 → q ≠ c + 7 → I2 q = I q := fun q a1 a2 a3 a4 a5 a6 => by rw [q2 q (by omega), hr q a1 a2 a3 a4 a5 a6]
  obtain ⟨e, he, S⟩ := h.sm (I1 := I2) (Iz1 := Iz1) (a := x + 101) (by omega) R2 (fun q hq => by
    unfold Scr at hq
    exact xq q (by omega) (by omega) (by omega) (by omega) (by omega) (by omega)) hz
  exact ⟨e, I2, e1, he, S, hN.fx (by rw [q2 _ (by omega)]) (q2 _ (by omega)) rfl, xq, fun k hk => by rw [q2 _ (by omega), h8 k hk]⟩
theorem gone_x {I1 I2 : Nat → Nat → Int32} (hcx : c = x + 4 ∨ x + 224 ≤ c) (xq : ∀ q, ¬ (x + 101 ≤ q ∧ q ≤ x + 107) → q ≠ x + 108 → q ≠ x + 109 → q ≠ c + 5 → q ≠ c + 6 → q ≠ c + 7 → I1 q = I q) (x8 : ∀ k, k ≠ 1 → I1 (x + 108) k = I (x + 108) k) (fx : Fx I1 I2 (x + 101) c) : (∀ q, ¬ (x + 101 ≤ q ∧ q ≤ x + 107) → q ≠ x + 108 → q ≠ x + 109 → q ≠ c + 5 → q ≠ c + 6 → q ≠ c + 7 → I2 q = I q) ∧ ∀ k, k ≠ 1 → I2 (x + 108) k = I (x + 108) k :=
  ⟨fun q a1 a2 a3 a4 a5 a6 => by rw [fx q (by omega) a4 a5 a6, xq q a1 a2 a3 a4 a5 a6], fun k hk => by rw [fx _ (by omega) (by omega) (by omega) (by omega), x8 k hk]⟩
theorem rdn_x {I1 : Nat → Nat → Int32} (h1 : ∀ q, q ≠ x + 108 → q ≠ x + 109 → I1 q = I q) : ∀ q, ¬ (x + 101 ≤ q ∧ q ≤ x + 107) → q ≠ x + 108 → q ≠ x + 109 → q ≠ c + 5 → q ≠ c + 6 → q ≠ c + 7 → I1 q = I q := fun q _ a2 a3 _ _ _ => h1 q a2 a3
/-- a night of one who is there -/
theorem readNight_is (h : InvS T I J P x nn c Iz Jz z N n u tn LT LP d na v) (a b : Int32) : ∃ w I1, x_readNight 2000 I J x c a b = some (w, I1) ∧ r_noNightOf 2000 (uI Iz z 0 0) Jz z a b = some w ∧ (∀ q, q ≠ x + 108 → q ≠ x + 109 → I1 q = I q) ∧ (∀ k, k ≠ 1 → I1 (x + 108) k = I (x + 108) k) ∧ (w = 0 → ∃ t p m tl, a = nI t ∧ b = nI p ∧ p < n ∧ Ngt I1 x (uI Iz z 0 0) Jz z t m tn tl) := by
  have hn := h.n6
  have z1 : uI Iz z 0 0 (z + 1) = Iz (z + 1) := thr_row (by decide)
  unfold x_readNight r_noNightOf
  rcases arg_cases a 4 (by decide) with ha | ⟨t, ht, rfl⟩
  · rw [noTray_bad ha, within03_bad ha]
    exact ⟨_, _, rfl, rfl, fun _ _ _ => rfl, fun _ _ => rfl, fun cc => absurd (show (-2 : Int32) = 0 from cc) (by decide)⟩
  rw [noTray_ok ht, if_pos rfl, within03_ok ht, if_neg (show ¬ (1 : Int32) = 0 by decide)]
  rcases arg_cases b n (by omega) with hb | ⟨p, hp, rfl⟩
  · rw [noPerson_bad h.c0 hn hb, isPerson_bad (by rw [z1]; exact h.z1) hn hb]
    exact ⟨_, _, rfl, rfl, fun _ _ _ => rfl, fun _ _ => rfl, fun cc => absurd (show (-2 : Int32) = 0 from cc) (by decide)⟩
  rw [noPerson_ok h.c0 hn hp, if_pos rfl, isPerson_ok (by rw [z1]; exact h.z1) hn hp, Option.bind_some]
  try dsimp only
  rw [if_neg (show ¬ (1 : Int32) = 0 by decide)]
  obtain ⟨w, I1, e1, e2, r1, r2, r3⟩ := readTunes_is h (Iz1 := uI Iz z 0 0) KeepZ.thr ht
  rw [e1, e2]
  refine ⟨w, I1, rfl, rfl, r1, r2, fun cc => ?_⟩
  obtain ⟨m, tl, hN⟩ := r3 cc
  exact ⟨t, p, m, tl, rfl, rfl, hp, hN⟩
theorem readUp_is (h : InvS T I J P x nn c Iz Jz z N n u tn LT LP d na v) (a b : Int32) : ∃ w I1, x_readNightOfOneUp 2000 I J x c a b = some (w, I1) ∧ r_noStands 2000 (uI Iz z 0 0) Jz z a b = some w ∧ (∀ q, q ≠ x + 108 → q ≠ x + 109 → I1 q = I q) ∧ (∀ k, k ≠ 1 → I1 (x + 108) k = I (x + 108) k) ∧ (w = 0 → ∃ t p m tl, a = nI t ∧ b = nI p ∧ p < n ∧ ub u p = true ∧ Ngt I1 x (uI Iz z 0 0) Jz z t m tn tl) := by
  have hn := h.n6
  have z1 : uI Iz z 0 0 (z + 1) = Iz (z + 1) := thr_row (by decide)
  obtain ⟨w, I1, e1, e2, r1, r2, r3⟩ := readNight_is h a b
  unfold x_readNightOfOneUp r_noStands
  rw [e1, e2, Option.bind_some, Option.bind_some]
  try dsimp only
  by_cases hw : w = 0
  · obtain ⟨t, p, m, tl, rfl, rfl, hp, hN⟩ := r3 hw
    subst hw
    rw [if_pos rfl, if_pos rfl, s_isUp_is (u := u) (by rw [r1 _ (by omega) (by omega)]; exact h.rs.2.1.trans h.wf.2.2.1) h.wf.u64 (by omega), r_isUp_is (u := u) (by rw [z1]; exact h.wf.2.2.1) h.wf.u64 (by omega), Option.bind_some]
    try dsimp only
    cases hb : ub u p with
    | false =>
      rw [if_pos (show b2 false = 0 from rfl), if_pos (show b2 false = 0 from rfl)]
      exact ⟨_, _, rfl, rfl, r1, r2, fun cc => absurd (show (-5 : Int32) = 0 from cc) (by decide)⟩
    | true =>
      rw [if_neg (show ¬ b2 true = 0 by decide), if_neg (show ¬ b2 true = 0 by decide)]
      exact ⟨_, _, rfl, rfl, r1, r2, fun _ => ⟨t, p, m, tl, rfl, rfl, hp, hb, hN⟩⟩
  · rw [if_neg hw, if_neg hw]
    exact ⟨_, _, rfl, rfl, r1, r2, fun cc => absurd cc hw⟩
theorem unq_r {I1 : Nat → Nat → Int32} (h1 : ∀ q, q ≠ x + 108 → q ≠ x + 109 → I1 q = I q) (h2 : ∀ k, k ≠ 1 → I1 (x + 108) k = I (x + 108) k) : Unq I I1 x c Iz (uI Iz z 0 0) z := ⟨(Kx108 h1 h2).1, KeepZ.thr, (Kx108 (c := c) h1 h2).2⟩
theorem stands_call (h : InvS T I J P x nn c Iz Jz z N n u tn LT LP d na v) (hN : N < 600) (a b : Int32) : ∃ r I2 Iz2, x_stands 2000 T I J P x c a b = some (r, I2) ∧ r_stands 2000 Iz Jz z a b = some (r, Iz2) ∧ Unq I I2 x c Iz Iz2 z := by
  have hcx := (h.1 c (Or.inl rfl)).1.1
  obtain ⟨w, I1, e1, e2, r1, r2, r3⟩ := readUp_is h a b
  unfold x_stands r_stands
  try dsimp only
  rw [e1, e2, Option.bind_some, Option.bind_some]
  try dsimp only
  by_cases hw : w = 0
  · obtain ⟨t, p, m, tl, rfl, rfl, hp, hu, hNg⟩ := r3 hw
    subst hw
    rw [if_pos rfl, if_pos rfl]
    obtain ⟨Iz1, k1, K1⟩ := kz_start (Iz := Iz) (z := z)
    obtain ⟨e, I2, c1, he, S, hN2, xq, x8⟩ := trial_is (I0 := I) h (Iz1 := Iz1) (rdn_x (c := c) r1) r2 (hNg.fx rfl rfl (by rw [K1.2.2.1 _ (by omega) (by omega) (by omega) (by omega) (by omega) (by omega), thr_row (by decide)])) K1.2.1
    rw [c1, k1, Option.bind_some, Option.bind_some]
    try dsimp only
    obtain ⟨r, I3, Iz3, m1, m2, -, fx, fr⟩ := mins_is hcx (by omega) hp (by omega) S.np hN2
    obtain ⟨Iz4, k2, K2⟩ := kz_back K1 fr
    rw [m1, m2, Option.bind_some, Option.bind_some]
    try dsimp only
    rw [k2, Option.bind_some]
    obtain ⟨y1, y2⟩ := gone_x hcx xq x8 fx
    exact ⟨_, _, _, rfl, rfl, (unq_x hcx y1 y2).1, K2.keep, (unq_x hcx y1 y2).2⟩
  · rw [if_neg hw, if_neg hw]
    exact ⟨_, _, _, rfl, rfl, unq_r r1 r2⟩
theorem place_call (h : InvS T I J P x nn c Iz Jz z N n u tn LT LP d na v) (hN : N < 600) (a b : Int32) : ∃ r I2 Iz2, x_place 2000 T I J P x c a b = some (r, I2) ∧ r_place 2000 Iz Jz z a b = some (r, Iz2) ∧ Unq I I2 x c Iz Iz2 z := by
  have hcx := (h.1 c (Or.inl rfl)).1.1
  obtain ⟨w, I1, e1, e2, r1, r2, r3⟩ := readNight_is h a b
  unfold x_place r_place
  try dsimp only
  rw [e1, e2, Option.bind_some, Option.bind_some]
  try dsimp only
  by_cases hw : w = 0
  · obtain ⟨t, p, m, tl, rfl, rfl, hp, hNg⟩ := r3 hw
    subst hw
    rw [if_pos rfl, if_pos rfl]
    obtain ⟨Iz1, k1, K1⟩ := kz_start (Iz := Iz) (z := z)
    obtain ⟨e, I2, c1, he, S, hN2, xq, x8⟩ := trial_is (I0 := I) h (Iz1 := Iz1) (rdn_x (c := c) r1) r2 (hNg.fx rfl rfl (by rw [K1.2.2.1 _ (by omega) (by omega) (by omega) (by omega) (by omega) (by omega), thr_row (by decide)])) K1.2.1
    rw [c1, k1, Option.bind_some, Option.bind_some]
    try dsimp only
    obtain ⟨I3, Iz3, m1, m2, ⟨u3, S3⟩, fx, fr⟩ := thr_is hcx (by omega) (by omega) S.np hN2
    obtain ⟨Iz4, k2, K2⟩ := kz_back K1 fr
    rw [chk_nI hN2.1 (by decide), nI_cl (by have := hN2.1; omega), hN2.2.2.2.1, m1, m2, Option.bind_some, Option.bind_some]
    try dsimp only
    rw [s_placeOf_is S3.1 S3.2.2.2.2.1 hp, r_placeOf_is S3.1 hp, Option.bind_some, Option.bind_some]
    try dsimp only
    rw [k2, Option.bind_some]
    obtain ⟨y1, y2⟩ := gone_x hcx xq x8 fx
    exact ⟨_, _, _, rfl, rfl, (unq_x hcx y1 y2).1, K2.keep, (unq_x hcx y1 y2).2⟩
  · rw [if_neg hw, if_neg hw]
    exact ⟨_, _, _, rfl, rfl, unq_r r1 r2⟩
theorem breakfast_call (h : InvS T I J P x nn c Iz Jz z N n u tn LT LP d na v) (hN : N < 600) (a : Int32) : ∃ r I2 Iz2, x_breakfast 2000 T I J P x c a = some (r, I2) ∧ r_breakfast 2000 Iz Jz z a = some (r, Iz2) ∧ Unq I I2 x c Iz Iz2 z := by
  have hcx := (h.1 c (Or.inl rfl)).1.1
  unfold x_breakfast r_breakfast
  try dsimp only
  rcases arg_cases a 4 (by decide) with ha | ⟨t, ht, rfl⟩
  · have e2 : r_noNight 2000 (uI Iz z 0 0) Jz z a = some (-2) := by
      unfold r_noNight
      rw [rnoTray_bad ha]
      rfl
    rw [noTray_bad ha, e2]
    exact ⟨_, _, _, rfl, rfl, unq_0⟩
  obtain ⟨w, I1, e1, e2, r1, r2, r3⟩ := readTunes_is h (Iz1 := uI Iz z 0 0) KeepZ.thr ht
  rw [noTray_ok ht, if_pos rfl, e1, e2, Option.bind_some, Option.bind_some]
  try dsimp only
  by_cases hw : w = 0
  · obtain ⟨m, tl, hNg⟩ := r3 hw
    subst hw
    rw [if_pos rfl, if_pos rfl]
    obtain ⟨Iz1, k1, K1⟩ := kz_start (Iz := Iz) (z := z)
    obtain ⟨e, I2, c1, he, S, hN2, xq, x8⟩ := trial_is (I0 := I) h (Iz1 := Iz1) (rdn_x (c := c) r1) r2 (hNg.fx rfl rfl (by rw [K1.2.2.1 _ (by omega) (by omega) (by omega) (by omega) (by omega) (by omega), thr_row (by decide)])) K1.2.1
    rw [c1, k1, Option.bind_some, Option.bind_some]
    try dsimp only
    obtain ⟨I3, Iz3, m1, m2, ⟨u3, S3⟩, fx, fr⟩ := thr_is hcx (by omega) (by omega) S.np hN2
    obtain ⟨Iz4, k2, K2⟩ := kz_back K1 fr
    rw [chk_nI hN2.1 (by decide), nI_cl (by have := hN2.1; omega), hN2.2.2.2.1, m1, m2, Option.bind_some, Option.bind_some]
    try dsimp only
    rw [k2, Option.bind_some]
    try dsimp only
    rw [S3.2.2.2.2.1.2.1]
    obtain ⟨y1, y2⟩ := gone_x hcx xq x8 fx
    exact ⟨_, _, _, rfl, rfl, (unq_x hcx y1 y2).1, K2.keep, (unq_x hcx y1 y2).2⟩
  · rw [if_neg hw, if_neg hw]
    exact ⟨_, _, _, rfl, rfl, unq_r r1 r2⟩
end
