/-! seasons -/
section
variable {T : Nat → Option (Nat × Nat)} {I : Nat → Nat → Int32} {J : Nat → Nat → Int64} {P : Nat → Nat → Option Nat} {x nn a c : Nat} {Iz : Nat → Nat → Int32} {Jz : Nat → Nat → Int64} {z N n u tn : Nat} {LT LP : Row → Int32} {d na v e : Nat}
theorem x_draw_is : x_draw I x = some (nI (drk (drs (I x 10))), uI I x 10 (drs (I x 10))) := by
  unfold x_draw
  try dsimp only
  rw [uI_e, ← drk_is]
  rfl
theorem r_draw6 : r_draw Iz z 6 = some (nI (drk (drs (Iz z 21)) % 6), uI Iz z 21 (drs (Iz z 21))) := by
  unfold r_draw nz
  try dsimp only
  rw [uI_e, if_neg (by decide), show (1103515245 * Iz z 21 + 12345) = drs (Iz z 21) from rfl, drk_is]
  have := drk_lt (drs (Iz z 21))
  rw [show nI (drk (drs (Iz z 21))) - nI (drk (drs (Iz z 21))) / 6 * 6 = nI (drk (drs (Iz z 21)) % 6) from pk_rem (d := 6) (by omega) (by decide) (by decide)]
theorem r_draw4 : r_draw Iz z 4 = some (nI (drk (drs (Iz z 21)) % 4), uI Iz z 21 (drs (Iz z 21))) := by
  unfold r_draw nz
  try dsimp only
  rw [uI_e, if_neg (by decide), show (1103515245 * Iz z 21 + 12345) = drs (Iz z 21) from rfl, drk_is]
  have := drk_lt (drs (Iz z 21))
  rw [show nI (drk (drs (Iz z 21))) - nI (drk (drs (Iz z 21))) / 4 * 4 = nI (drk (drs (Iz z 21)) % 4) from pk_rem (d := 4) (by omega) (by decide) (by decide)]
theorem dd_neg : x_doDeed 2000 T I P x a c (-1) = (s_standAgain 2000 I a c).bind (fun q => some (0, q)) := by
  unfold x_doDeed
  rw [if_pos ((lg_cmp_eq _ _).mpr rfl)]
theorem lN_ne {k : Nat} (hk : k < 300) : ¬ lN k = -1 ∧ ¬ lN k < 0 ∧ lN k ≤ 299 := by
  have h1 := pk_lT (n := k) (by omega)
  have k1 : (-1 : Int64).toInt = -1 := rfl
  have k2 : (0 : Int64).toInt = 0 := rfl
  have k3 : (299 : Int64).toInt = 299 := rfl
  refine ⟨fun cc => ?_, fun cc => ?_, ?_⟩
  · rw [cc] at h1
    omega
  · rw [i64_lt] at cc
    omega
  · rw [i64_le]
    omega
theorem dd_minute {k : Nat} (hk : k < 10) : x_doDeed 2000 T I P x a c (lN k) = x_doMinute 2000 T I P x a c (nI k) := by
  obtain ⟨k1, k2, k3⟩ := lN_ne (k := k) (by omega)
  unfold x_doDeed
  rw [if_neg (fun cc => k1 ((lg_cmp_eq _ _).mp cc)), if_neg (fun cc => k2 ((lg_cmp_lt _ _).mp cc)), if_pos ((lg_cmp_le _ _).mpr k3)]
  try dsimp only
  rw [lN_i, if_neg (show ¬ (10 : Int32) ≤ nI k from nI_ge (b := 10) hk (by decide))]
  exact bind_eta _
theorem dd_sit {k : Nat} (hk : k < 10) : x_doDeed 2000 T I P x a c (lN (10 + k)) = x_doSit I x a c (nI k) := by
  obtain ⟨k1, k2, k3⟩ := lN_ne (k := 10 + k) (by omega)
  unfold x_doDeed
  rw [if_neg (fun cc => k1 ((lg_cmp_eq _ _).mp cc)), if_neg (fun cc => k2 ((lg_cmp_lt _ _).mp cc)), if_pos ((lg_cmp_le _ _).mpr k3)]
  try dsimp only
  rw [lN_i, if_pos (show (10 : Int32) ≤ nI (10 + k) from nI_le (a := 10) (by omega) (by omega)), if_neg (show ¬ (20 : Int32) ≤ nI (10 + k) from nI_ge (b := 20) (by omega) (by decide)), show nI (10 + k) - 10 = nI k from (pk_sub (b := 10) (by omega)).trans (by congr 1; omega)]
  exact bind_eta _
theorem dd_change {p q : Nat} (hp : p < 10) (hq : q < 10) : x_doDeed 2000 T I P x a c (lN (100 + 10 * p + q)) = x_doChange I x a c (nI p) (nI q) := by
  obtain ⟨k1, k2, k3⟩ := lN_ne (k := 100 + 10 * p + q) (by omega)
  unfold x_doDeed
  rw [if_neg (fun cc => k1 ((lg_cmp_eq _ _).mp cc)), if_neg (fun cc => k2 ((lg_cmp_lt _ _).mp cc)), if_pos ((lg_cmp_le _ _).mpr k3)]
  try dsimp only
  have em2 : nI (100 + 10 * p + q) - nI (100 + 10 * p + q) / 10 * 10 = nI q := (pk_rem (d := 10) (by omega) (by decide) (by decide)).trans (by congr 1; omega)
  have s2 : (nI (100 + 10 * p + q) - 100) / 10 = nI p := by
    rw [show nI (100 + 10 * p + q) - 100 = nI (100 + 10 * p + q - 100) from pk_sub (b := 100) (by omega)]
    exact (pk_div (d := 10) (by omega) (by decide) (by decide)).trans (by congr 1; omega)
  rw [lN_i, if_pos (show (10 : Int32) ≤ nI (100 + 10 * p + q) from nI_le (a := 10) (by omega) (by omega)), if_pos (show (20 : Int32) ≤ nI (100 + 10 * p + q) from nI_le (a := 20) (by omega) (by omega)), if_pos (show (100 : Int32) ≤ nI (100 + 10 * p + q) from nI_le (a := 100) (by omega) (by omega)), if_neg (show ¬ (200 : Int32) ≤ nI (100 + 10 * p + q) from nI_ge (b := 200) (by omega) (by decide)), em2, s2]
  exact bind_eta _
/-- only the seed is another -/
def Sd (I I' : Nat → Nat → Int32) (x k : Nat) : Prop := (∀ q, q ≠ x → I' q = I q) ∧ ∀ j, j ≠ k → I' x j = I x j
theorem Sd.rf {k : Nat} : Sd I I x k := ⟨fun _ _ => rfl, fun _ _ => rfl⟩
theorem Sd.up {k : Nat} {I1 : Nat → Nat → Int32} {s : Int32} (h : Sd I I1 x k) : Sd I (uI I1 x k s) x k := ⟨fun q hq => by rw [uI_row _ _ _ _ _ hq, h.1 q hq], fun j hj => by rw [uI_k _ _ _ _ _ hj, h.2 j hj]⟩
theorem Sm.sd {I1 Iz1 : Nat → Nat → Int32} {w : Bool} (h : Sm T I P a c Iz z n u tn LT LP e w) (hx : Sd I I1 x 10) (hz : Sd Iz Iz1 z 21) (ha : x < a) (hc : x < c) (hw : ∀ w, P c 8 = some w ∨ P c 9 = some w → x < w) : Sm T I1 P a c Iz1 z n u tn LT LP e w := by
  obtain ⟨h1, h2, h3, h4, h5, h6, h7, h8⟩ := h
  have e1 : Iz1 (z + 1) = Iz (z + 1) := hz.1 _ (by omega)
  unfold Sm
  rw [e1]
  exact ⟨h1, h2, h3, h4.same (fun q a1 a2 => hx.1 q (by omega)) (fun w hw1 => hx.1 _ (by have := hw w hw1; omega)), h5.same (fun q a1 a2 => hx.1 q (by omega)), h6, h7, h8⟩
def Drawn (T : Nat → Option (Nat × Nat)) (I I1 : Nat → Nat → Int32) (P : Nat → Nat → Option Nat) (x a c : Nat) (Iz : Nat → Nat → Int32) (z n u tn : Nat) (LT LP : Row → Int32) (e : Nat) (w vv : Int32) (I' Iz' : Nat → Nat → Int32) : Prop :=
  Sd I I' x 10 ∧ Sd Iz Iz' z 21 ∧ I' x 10 = Iz' z 21 ∧ Sm T I' P a c Iz' z n u tn LT LP e true ∧ Told T I' I1 P a c Iz' z n tn LT LP e (Int32.toInt64 vv) w
theorem cp_drawn (h : Sm T I P a c Iz z n u tn LT LP e true) (he : e < 1000000) (ha : x < a) (hc : x < c) (hw : ∀ w, P c 8 = some w ∨ P c 9 = some w → x < w) (hs : I x 10 = Iz z 21) : ∃ w I1 vv I' Iz', x_doDrawn 2000 T I P x a c = some (w, I1) ∧ r_drawn Iz z = some (vv, Iz') ∧ Drawn T I I1 P x a c Iz z n u tn LT LP e w vv I' Iz' := by
  unfold x_doDrawn r_drawn
  rw [x_draw_is, r_draw6, Option.bind_some, Option.bind_some]
  try dsimp only
  rw [← hs]
  have hk := drk_lt (drs (I x 10))
  rw [show nI (drk (drs (I x 10))) - nI (drk (drs (I x 10))) / 6 * 6 = nI (drk (drs (I x 10)) % 6) from pk_rem (d := 6) (by omega) (by decide) (by decide)]
  generalize hs1 : drs (I x 10) = s1 at *
  have hx1 : Sd I (uI I x 10 s1) x 10 := Sd.rf.up
  have hz1 : Sd Iz (uI Iz z 21 s1) z 21 := Sd.rf.up
  have y1 : uI I x 10 s1 x 10 = s1 := uI_e _ _ _ _
  have y2 : uI Iz z 21 s1 z 21 = s1 := uI_e _ _ _ _
  generalize uI I x 10 s1 = I1 at *
  generalize uI Iz z 21 s1 = Iz1 at *
  have hm : drk s1 % 6 < 6 := Nat.mod_lt _ (by decide)
  generalize drk s1 % 6 = k1 at *
  have n3 : (nI k1 = 3) = (k1 = 3) := nI_EQ (b := 3) (by omega) (by decide)
  have n4 : (nI k1 = 4) = (k1 = 4) := nI_EQ (b := 4) (by omega) (by decide)
  have n5 : (nI k1 = 5) = (k1 = 5) := nI_EQ (b := 5) (by omega) (by decide)
  have n3' : ((3 : Int32) ≤ nI k1) = (3 ≤ k1) := nI_LE (a := 3) (by decide) (by omega)
  by_cases c5 : k1 = 5
  · rw [if_neg (by rw [n3]; omega), if_neg (by rw [n4]; omega), if_pos (by rw [n5]; exact c5), if_pos (by rw [n5]; exact c5)]
    have S1 := h.sd hx1 hz1 ha hc hw
    obtain ⟨w, I2, e1, e2⟩ := cp_deed (x := x) S1 he (-1)
    rw [dd_neg] at e1
    rw [e1]
    refine ⟨w, I2, -1, I1, Iz1, rfl, rfl, ?_⟩
    unfold Drawn
    refine ⟨hx1, hz1, by rw [y1, y2], S1, ?_⟩
    rw [show Int32.toInt64 (-1) = -1 from by decide]
    exact e2
  have q5 : ¬ nI k1 = 5 := by rw [n5]; exact c5
  rw [if_neg q5, if_neg q5]
  by_cases c3 : k1 < 3
  · rw [if_neg (show ¬ nI k1 = 3 by rw [n3]; omega), if_neg (show ¬ nI k1 = 4 by rw [n4]; omega), if_neg (show ¬ (3 : Int32) ≤ nI k1 by rw [n3']; omega), x_draw_is, r_draw4, Option.bind_some, Option.bind_some]
    try dsimp only
    rw [y1, y2]
    have hk2 := drk_lt (drs s1)
    rw [show nI (drk (drs s1)) - nI (drk (drs s1)) / 4 * 4 = nI (drk (drs s1) % 4) from pk_rem (d := 4) (by omega) (by decide) (by decide)]
    have S1 := h.sd (hx1.up (s := drs s1)) (hz1.up (s := drs s1)) ha hc hw
    have hm2 : drk (drs s1) % 4 < 4 := Nat.mod_lt _ (by decide)
    generalize drk (drs s1) % 4 = t at *
    obtain ⟨w, I2, e1, e2⟩ := cp_deed (x := x) S1 he (lN t)
    rw [dd_minute (by omega)] at e1
    rw [e1, Option.bind_some]
    refine ⟨w, I2, nI t, uI I1 x 10 (drs s1), uI Iz1 z 21 (drs s1), rfl, rfl, ?_⟩
    unfold Drawn
    refine ⟨hx1.up, hz1.up, by rw [uI_e, uI_e], S1, ?_⟩
    rw [nI_l (by omega)]
    exact e2
  rw [if_pos (show (3 : Int32) ≤ nI k1 by rw [n3']; omega), x_draw_is, r_draw6, Option.bind_some, Option.bind_some, Option.bind_some, Option.bind_some]
  try dsimp only
  rw [y1, y2]
  have hk2 := drk_lt (drs s1)
  rw [show nI (drk (drs s1)) - nI (drk (drs s1)) / 6 * 6 = nI (drk (drs s1) % 6) from pk_rem (d := 6) (by omega) (by decide) (by decide)]
  have hm2 : drk (drs s1) % 6 < 6 := Nat.mod_lt _ (by decide)
  generalize drk (drs s1) % 6 = p at *
  have hx2 := hx1.up (s := drs s1)
  have hz2 := hz1.up (s := drs s1)
  have y3 : uI I1 x 10 (drs s1) x 10 = drs s1 := uI_e _ _ _ _
  have y4 : uI Iz1 z 21 (drs s1) z 21 = drs s1 := uI_e _ _ _ _
  generalize uI I1 x 10 (drs s1) = I2 at *
  generalize uI Iz1 z 21 (drs s1) = Iz2 at *
  by_cases c33 : k1 = 3
  · have q3 : nI k1 = 3 := by rw [n3]; exact c33
    rw [if_pos q3, if_pos q3]
    have S1 := h.sd hx2 hz2 ha hc hw
    obtain ⟨w, I3, e1, e2⟩ := cp_deed (x := x) S1 he (lN (10 + p))
    rw [dd_sit (by omega)] at e1
    rw [e1, Option.bind_some]
    rw [show (10 : Int32) + nI p = nI (10 + p) from nI_add 10 p]
    refine ⟨w, I3, nI (10 + p), I2, Iz2, rfl, rfl, ?_⟩
    unfold Drawn
    refine ⟨hx2, hz2, by rw [y3, y4], S1, ?_⟩
    rw [nI_l (by omega)]
    exact e2
  · have q3 : ¬ nI k1 = 3 := by rw [n3]; exact c33
    rw [if_neg q3, if_neg q3, if_pos (show nI k1 = 4 by rw [n4]; omega), x_draw_is, r_draw6, Option.bind_some, Option.bind_some]
    try dsimp only
    rw [y3, y4]
    have hk3 := drk_lt (drs (drs s1))
    rw [show nI (drk (drs (drs s1))) - nI (drk (drs (drs s1))) / 6 * 6 = nI (drk (drs (drs s1)) % 6) from pk_rem (d := 6) (by omega) (by decide) (by decide)]
    have hm3 : drk (drs (drs s1)) % 6 < 6 := Nat.mod_lt _ (by decide)
    generalize drk (drs (drs s1)) % 6 = q at *
    have S1 := h.sd (hx2.up (s := drs (drs s1))) (hz2.up (s := drs (drs s1))) ha hc hw
    obtain ⟨w, I3, e1, e2⟩ := cp_deed (x := x) S1 he (lN (100 + 10 * p + q))
    rw [dd_change (by omega) (by omega)] at e1
    rw [e1, Option.bind_some]
    rw [show (10 : Int32) * nI p = nI (10 * p) from pk_mul 10 p, show (100 : Int32) + nI (10 * p) = nI (100 + 10 * p) from nI_add 100 _, nI_add]
    refine ⟨w, I3, nI (100 + 10 * p + q), uI I2 x 10 (drs (drs s1)), uI Iz2 z 21 (drs (drs s1)), rfl, rfl, ?_⟩
    unfold Drawn
    refine ⟨hx2.up, hz2.up, by rw [uI_e, uI_e], S1, ?_⟩
    rw [nI_l (by omega)]
    exact e2
end
