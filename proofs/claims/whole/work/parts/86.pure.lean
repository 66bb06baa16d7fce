/-! chance, chancellor -/
section
variable {T : Nat → Option (Nat × Nat)} {I : Nat → Nat → Int32} {J : Nat → Nat → Int64} {P : Nat → Nat → Option Nat} {x nn c : Nat} {Iz : Nat → Nat → Int32} {Jz : Nat → Nat → Int64} {z N n u tn : Nat} {LT LP : Row → Int32} {d na v e : Nat}
/-- rows that a question of chances may write -/
def Hx (I I2 : Nat → Nat → Int32) (x c : Nat) : Prop := ∀ q, ¬ (x + 158 ≤ q ∧ q ≤ x + 213) → ¬ (x + 219 ≤ q ∧ q ≤ x + 221) → q ≠ c + 5 → q ≠ c + 6 → q ≠ c + 7 → I2 q = I q
def Hj (J J2 : Nat → Nat → Int64) (x : Nat) : Prop := ∀ q, q ≠ x + 219 → q ≠ x + 222 → q ≠ x + 223 → J2 q = J q
theorem findChances_is (hsr : isSR T P x) (h : InvK T I J P x nn c Iz Jz z N n u tn LT LP v) (hM : Mcha I J x Iz z v) (hN : N < 600) {m : Nat} (hm : m ≤ 6) : ∃ I2 J2, x_findChances 2000 T I J P x c (nI m) = some (I2, J2) ∧ Hx I I2 x c ∧ Hj J J2 x ∧ Mcha I2 J2 x Iz z v ∧ ∀ Iz' Jz', KeepY Iz Iz' z → AnsC I2 J2 x Iz' Jz' z (nI m) := by
  have hcx := h.apx.1
  have h9 : I x 9 = nI v := h.v9.1
  have hv : v ≤ N + 1 := h.v9.2
  unfold x_findChances
  rw [h9]
  obtain ⟨I1, e1, e2, m0, m1, m2, m3, m4⟩ := knows_is I (x + 220) (nI v) (nI m) 0 0 0
  obtain ⟨k, k1, k2, k3⟩ := hM
  rcases e1 with ⟨e1, n0, n1, n2, n3, n4⟩ | e1
  · rw [e1, Option.bind_some]
    try dsimp only
    rw [if_neg (show ¬ (1 : Int32) = 0 by decide)]
    have ek : k = v := by
      have n0 : I (x + 221) 0 = nI v := n0
      rw [k2] at n0
      exact (nI_eq (by omega) (by omega)).mp n0
    have hA : ∀ Iz' Jz', KeepY Iz Iz' z → AnsC I1 J x Iz' Jz' z (nI m) := fun Iz' Jz' hk => by
      have := k3 ek Iz' Jz' hk
      rw [show I (x + 221) 1 = nI m from n1] at this
      exact this
    refine ⟨I1, J, rfl, fun r a1 a2 a3 a4 a5 => e2 r (by omega), fun _ _ _ _ => rfl, ⟨v, Nat.le_refl _, m0, fun _ Iz' Jz' hk => ?_⟩, hA⟩
    rw [show I1 (x + 221) 1 = nI m from m1]
    exact hA Iz' Jz' hk
  · rw [e1, Option.bind_some]
    try dsimp only
    rw [if_pos rfl]
    have hX : KeepX I I1 x c := KeepX.of (fun q hq => e2 q (fun cc => hq (by unfold Scr; omega))) (e2 _ (by omega)) (e2 _ (by omega))
    have hI1 : ∀ Iz', KeepY Iz Iz' z → InvK T I1 J P x nn c Iz' Jz z N n u tn LT LP v := fun Iz' hk => h.keep hsr hX (fun _ _ => rfl) (fun _ _ _ _ => rfl) hk rfl
    have h4 := h.t4
    have h36 : mws (od (Iz (z + 1))) tn 0 ≤ 36 := by
      have := mws_9 (f := od (Iz (z + 1))) tn 0 (fun i a b => (h.ods i (by omega)).1)
      omega
    generalize hM : (if mws (od (Iz (z + 1))) tn 0 = 0 then 0 else m) = M
    have hM6 : M ≤ 6 := by rw [← hM]; split <;> omega
    obtain ⟨I2, J2, w1, w2, w3, w4, w5⟩ := chfind_is hsr (hI1 Iz KeepY.rf) hN hm rfl hM.symm h36
    rw [w1, Option.bind_some]
    have hB : 1 ≤ mws (od (Iz (z + 1))) tn 0 ^ M := by
      by_cases s0 : mws (od (Iz (z + 1))) tn 0 = 0
      · rw [if_pos s0] at hM
        rw [← hM, Nat.pow_zero]
        exact Nat.le_refl 1
      · exact Nat.pow_pos (by omega)
    have hA : ∀ Iz' Jz', KeepY Iz Iz' z → AnsC I2 J2 x Iz' Jz' z (nI m) := fun Iz' Jz' hk => by
      have es : mws (od (Iz' (z + 1))) tn 0 = mws (od (Iz (z + 1))) tn 0 := mws_ext tn 0 (fun i a b => by unfold od; rw [hk.1 _ (by omega)])
      obtain ⟨Iz2, Jz2, f1, f2, f3, f4, f5⟩ := firsts_is (hI1 Iz' hk) hN hm es hM.symm h36 (Jz' := Jz')
      obtain ⟨I2', J2', w1', -, -, w4', w5'⟩ := chfind_is hsr (hI1 Iz' hk) hN hm es hM.symm h36
      rw [w1] at w1'
      have e2 : (I2, J2) = (I2', J2') := by injection w1'
      injection e2 with e2 e3
      subst e2
      subst e3
      refine ⟨Iz2, Jz2, fun p => mwt LT LP n tn M u (Iz' (z + 1)) p, mws (od (Iz (z + 1))) tn 0 ^ M, f1, f2, f3, fun p hp => ⟨f4 p hp, w4' p hp, ?_⟩, hB, pow36 h36 hM6, w5', f5⟩
      have := mwt_le (LT := LT) (LP := LP) (tn := tn) h.n6 h4 M u _ p (hI1 Iz' hk).ods
      rw [es] at this
      exact Nat.lt_of_le_of_lt this (pow36 h36 hM6)
    have e221 : I2 (x + 221) = I1 (x + 221) := w2 _ (by omega) (by omega) (by omega) (by omega) (by omega)
    refine ⟨I2, J2, rfl, fun r a1 a2 a3 a4 a5 => by rw [w2 r a1 (by omega) a3 a4 a5, e2 r (by omega)], w3, ⟨v, Nat.le_refl _, by rw [e221]; exact m0, fun _ Iz' Jz' hk => ?_⟩, hA⟩
    rw [e221, show I1 (x + 221) 1 = nI m from m1]
    exact hA Iz' Jz' hk
/-- a question that keeps its answer in the rows of chances -/
def Unc (I I2 : Nat → Nat → Int32) (J J2 : Nat → Nat → Int64) (x c : Nat) (Iz Iz2 : Nat → Nat → Int32) (Jz Jz2 : Nat → Nat → Int64) (z v : Nat) : Prop := KeepX I I2 x c ∧ KeepJ J J2 x ∧ KeepZ Iz Iz2 z ∧ Jz2 (z + 20) = Jz (z + 20) ∧ KMr I I2 x ∧ KMw I I2 x ∧ KMm I I2 x ∧ Mcha I2 J2 x Iz2 z v
theorem unc_of {I2 Iz2 : Nat → Nat → Int32} {J2 Jz2 : Nat → Nat → Int64} (hcx : c = x + 4 ∨ x + 224 ≤ c) (hx : Hx I I2 x c) (hj : Hj J J2 x) (hz : KeepZ Iz Iz2 z) (hjz : Jz2 (z + 20) = Jz (z + 20)) (hM : Mcha I2 J2 x Iz z v) : Unc I I2 J J2 x c Iz Iz2 Jz Jz2 z v := by
  have g : ∀ r, ¬ (x + 158 ≤ r ∧ r ≤ x + 213) → ¬ (x + 219 ≤ r ∧ r ≤ x + 221) → x + 12 ≤ r → r < x + 224 → I2 r = I r := fun r a1 a0 a2 a3 => hx r a1 a0 (by omega) (by omega) (by omega)
  refine ⟨KeepX.of (fun q hq => ?_) (hx _ (by omega) (by omega) (by omega) (by omega) (by omega)) (hx _ (by omega) (by omega) (by omega) (by omega) (by omega)), fun t ht => hj _ (by omega) (by omega) (by omega), hz, hjz, ⟨g _ (by omega) (by omega) (by omega) (by omega), g _ (by omega) (by omega) (by omega) (by omega), by rw [g _ (by omega) (by omega) (by omega) (by omega)]⟩, ⟨g _ (by omega) (by omega) (by omega) (by omega), g _ (by omega) (by omega) (by omega) (by omega), by rw [g _ (by omega) (by omega) (by omega) (by omega)]⟩, ⟨g _ (by omega) (by omega) (by omega) (by omega), g _ (by omega) (by omega) (by omega) (by omega), by rw [g _ (by omega) (by omega) (by omega) (by omega)]⟩, hM.keep rfl rfl rfl hz.y⟩
  unfold Scr at hq
  exact hx q (by omega) (by omega) (by omega) (by omega) (by omega)
theorem unc_0 (hcx : c = x + 4 ∨ x + 224 ≤ c) (hM : Mcha I J x Iz z v) : Unc I I J J x c Iz (uI Iz z 0 0) Jz Jz z v := unc_of hcx (fun _ _ _ _ _ _ => rfl) (fun _ _ _ _ => rfl) KeepZ.thr rfl hM
theorem what_cases (w : Int32) : (w < 0 ∨ ¬ w ≤ 1) ∧ r_isWhat w = some 0 ∨ (¬ w < 0 ∧ w ≤ 1) ∧ r_isWhat w = some 1 := by
  unfold r_isWhat
  rcases arg_cases w 2 (by decide) with hw | ⟨j, hj, rfl⟩
  · rw [show r_within (Int32.toInt64 w) 0 1 = 0 from within_bad (n := 2) (by decide) hw, isb_0]
    left
    refine ⟨?_, rfl⟩
    rcases hw with hw | hw
    · exact Or.inl hw
    · right
      intro cc
      have e1 := Int32.le_iff_toInt_le.mp cc
      have e2 := Int32.le_iff_toInt_le.mp hw
      have e3 : (nI 2).toInt = 2 := by decide
      have e4 : (1 : Int32).toInt = 1 := by decide
      omega
  · rw [show r_within (Int32.toInt64 (nI j)) 0 1 = 1 from within_ok (n := 2) (by decide) hj, isb_1]
    exact Or.inr ⟨⟨nI_nlt (b := 0) (by omega) (by omega), nI_le (b := 1) (by omega) (by omega)⟩, rfl⟩
theorem six_cases (w : Int32) : ((w < 0 ∨ ¬ w ≤ 6) ∧ r_within (Int32.toInt64 w) 0 6 = 0) ∨ ∃ m : Nat, m ≤ 6 ∧ w = nI m ∧ ¬ w < 0 ∧ w ≤ 6 ∧ r_within (Int32.toInt64 w) 0 6 = 1 := by
  rcases arg_cases w 7 (by decide) with hw | ⟨j, hj, rfl⟩
  · left
    refine ⟨?_, within_bad (n := 7) (by decide) hw⟩
    rcases hw with hw | hw
    · exact Or.inl hw
    · right
      intro cc
      have e1 := Int32.le_iff_toInt_le.mp cc
      have e2 := Int32.le_iff_toInt_le.mp hw
      have e3 : (nI 7).toInt = 7 := by decide
      have e4 : (6 : Int32).toInt = 6 := by decide
      omega
  · exact Or.inr ⟨j, by omega, rfl, nI_nlt (b := 0) (by omega) (by omega), nI_le (b := 6) (by omega) (by omega), within_ok (n := 7) (by decide) hj⟩
theorem chance_call (hsr : isSR T P x) (h : InvS T I J P x nn c Iz Jz z N n u tn LT LP d na v) (hM : Mcha I J x Iz z v) (hN : N < 600) (a b w : Int32) : ∃ r I2 J2 Iz2 Jz2, x_chance 2000 T I J P x c a b w = some (r, I2, J2) ∧ r_chance 2000 Iz Jz z a b w = some (r, Iz2, Jz2) ∧ Unc I I2 J J2 x c Iz Iz2 Jz Jz2 z v := by
  have hcx := h.apx.1
  have hn := h.n6
  have z1 : uI Iz z 0 0 (z + 1) = Iz (z + 1) := thr_row (by decide)
  have un0 := unc_0 (c := c) (Jz := Jz) hcx hM
  unfold x_chance r_chance
  try dsimp only
  rcases arg_cases a n (by omega) with ha | ⟨p, hp, rfl⟩
  · rw [noPerson_bad h.c0 hn ha, isPerson_bad (by rw [z1]; exact h.z1) hn ha, if_neg (show ¬ (1 : Int32) = 0 by decide), Option.bind_some]
    exact ⟨_, _, _, _, _, rfl, rfl, un0⟩
  rw [noPerson_ok h.c0 hn hp, isPerson_ok (by rw [z1]; exact h.z1) hn hp, if_pos rfl, Option.bind_some]
  try dsimp only
  rw [if_neg (show ¬ (1 : Int32) = 0 by decide)]
  rcases what_cases w with ⟨hw, ew⟩ | ⟨hw, ew⟩
  · rw [ew, Option.bind_some]
    try dsimp only
    rw [if_pos rfl]
    by_cases c0 : w < 0
    · rw [if_pos c0]
      exact ⟨_, _, _, _, _, rfl, rfl, un0⟩
    · rw [if_neg c0, if_neg (hw.resolve_left c0)]
      exact ⟨_, _, _, _, _, rfl, rfl, un0⟩
  rw [ew, Option.bind_some]
  try dsimp only
  rw [if_neg hw.1, if_pos hw.2, if_neg (show ¬ (1 : Int32) = 0 by decide)]
  rcases six_cases b with ⟨hb, eb⟩ | ⟨m, hm, rfl, hb1, hb2, eb⟩
  · rw [eb, if_pos rfl]
    by_cases c0 : b < 0
    · rw [if_pos c0]
      exact ⟨_, _, _, _, _, rfl, rfl, un0⟩
    · rw [if_neg c0, if_neg (hb.resolve_left c0)]
      exact ⟨_, _, _, _, _, rfl, rfl, un0⟩
  rw [eb, if_neg hb1, if_pos hb2, if_neg (show ¬ (1 : Int32) = 0 by decide)]
  obtain ⟨I2, J2, f1, f2, f3, f4, f5⟩ := findChances_is hsr h.k hM hN hm
  obtain ⟨Iz2, Jz2, W, B, g1, g2, g3, g4, g5, g6, g7, g8⟩ := f5 _ Jz KeepZ.thr.y
  obtain ⟨y, g8⟩ := g8 (nI p) w
  obtain ⟨q1, q2, q3⟩ := g4 p (by omega)
  have un2 := unc_of (Jz := Jz) hcx f2 f3 (KeepZ.thr.tr g2) (g3 _ (by omega)) f4
  obtain ⟨k1, k2⟩ := gcd_is q3 g6
  have gp : 0 < Nat.gcd (W p) B := Nat.gcd_pos_of_pos_right _ (by omega)
  have gl : Nat.gcd (W p) B ≤ B := Nat.gcd_le_right _ (by omega)
  have g62 : Nat.gcd (W p) B < 2 ^ 62 := by omega
  rw [f1, g1, Option.bind_some, Option.bind_some]
  try dsimp only
  rw [g8, Option.bind_some]
  try dsimp only
  rw [chk_nI (show p < 6 by omega) (by decide), nI_cl (show p < 2147483648 by omega), q2, g7, k1, Option.bind_some]
  try dsimp only
  rw [if_pos (show (0 : Int32) ≤ lg_cmp (lN (Nat.gcd (W p) B)) 1 from (lg_cmp_ge _ _).mpr (by rw [i64_le, pk_lT (by omega)]; have k : (1 : Int64).toInt = 1 := rfl; omega)), nzl_ne (fun cc => by have := (lN_0 g62).mp cc; omega), nzl_ne (fun cc => by have := (lN_0 g62).mp cc; omega), q1, k2, Option.bind_some, Option.bind_some]
  try dsimp only
  rw [nzl_ne (fun cc => by have := (lN_0 g62).mp cc; omega), nzl_ne (fun cc => by have := (lN_0 g62).mp cc; omega), chk_nI (show p < 6 by omega) (by decide)]
  by_cases w0 : w = 0
  · rw [if_pos w0, if_pos w0]
    exact ⟨_, _, _, _, _, rfl, rfl, un2⟩
  · rw [if_neg w0, if_neg w0]
    try rw [chk_nI (show p < 6 by omega) (by decide)]
    exact ⟨_, _, _, _, _, rfl, rfl, un2⟩
theorem best_go2 {W : Nat → Nat} {I2 : Nat → Nat → Int32} {J2 : Nat → Nat → Int64} {Iz2 : Nat → Nat → Int32} {Jz2 : Nat → Nat → Int64} {g g' : Int32} (hn : n ≤ 6) (hc0 : I2 c 0 = nI n) (hz0 : Iz2 (z + 1) 1 = nI n) (hx : ∀ p, p < 6 → J2 (x + 222) p = Jz2 (z + 17) p) : ∀ (j k f f' b : Nat), k + j = n → j < f → j < f' → b < 6 → ∃ r, x_chancellor_34 2000 I2 J2 x c g f (nI b) (nI k) = some (r, nI n) ∧ r_chancellor_29 2000 Iz2 Jz2 z g' f' (nI b) (nI k) = some (r, nI n) := by
  intro j
  induction j with
  | zero =>
    intro k f f' b hk hf hf' hb
    obtain ⟨f, rfl⟩ : ∃ f', f = f' + 1 := ⟨f - 1, by omega⟩
    obtain ⟨f', rfl⟩ : ∃ g, f' = g + 1 := ⟨f' - 1, by omega⟩
    obtain rfl : k = n := by omega
    rw [x_chancellor_34, hc0, if_pos (nI_le (Nat.le_refl _) (by omega)), r_chancellor_29, show Int32.toNatClampNeg 1 = 1 from rfl, hz0, if_pos (nI_le (Nat.le_refl _) (by omega))]
    exact ⟨_, rfl, rfl⟩
  | succ j ih =>
    intro k f f' b hk hf hf' hb
    obtain ⟨f, rfl⟩ : ∃ f', f = f' + 1 := ⟨f - 1, by omega⟩
    obtain ⟨f', rfl⟩ : ∃ g, f' = g + 1 := ⟨f' - 1, by omega⟩
    have nb : ¬ nI b = -1 := fun cc => by
      have := i32_eq.mp cc
      rw [nI_toInt (by omega)] at this
      have k1 : (-1 : Int32).toInt = -1 := rfl
      omega
    rw [x_chancellor_34, hc0, if_neg (nI_ge (by omega) (by omega)), chk_nI (show k < 6 by omega) (by decide), chk_nI (show b < 6 by omega) (by decide), nI_cl (show k < 2147483648 by omega), nI_cl (show b < 2147483648 by omega), hx k (by omega), hx b hb]
    rw [r_chancellor_29, show Int32.toNatClampNeg 1 = 1 from rfl, hz0, if_neg (nI_ge (by omega) (by omega)), if_neg nb, chk_nI (show k < 6 by omega) (by decide), chk_nI (show b < 6 by omega) (by decide), nI_cl (show k < 2147483648 by omega), nI_cl (show b < 2147483648 by omega), nI_1]
    by_cases c1 : lg_cmp (Jz2 (z + 17) k) (Jz2 (z + 17) b) ≤ 0
    · rw [if_pos c1, if_pos c1]
      exact ih (k + 1) f f' b (by omega) (by omega) (by omega) hb
    · rw [if_neg c1, if_neg c1]
      exact ih (k + 1) f f' k (by omega) (by omega) (by omega) (by omega)
theorem chancellor_call (hsr : isSR T P x) (h : InvS T I J P x nn c Iz Jz z N n u tn LT LP d na v) (hM : Mcha I J x Iz z v) (hN : N < 600) (b : Int32) : ∃ r I2 J2 Iz2 Jz2, x_chancellor 2000 T I J P x c b = some (r, I2, J2) ∧ r_chancellor 2000 Iz Jz z b = some (r, Iz2, Jz2) ∧ Unc I I2 J J2 x c Iz Iz2 Jz Jz2 z v := by
  have hcx := h.apx.1
  have hn := h.n6
  have un0 := unc_0 (c := c) (Jz := Jz) hcx hM
  unfold x_chancellor r_chancellor
  try dsimp only
  rcases six_cases b with ⟨hb, eb⟩ | ⟨m, hm, rfl, hb1, hb2, eb⟩
  · rw [eb, if_pos rfl]
    by_cases c0 : b < 0
    · rw [if_pos c0]
      exact ⟨_, _, _, _, _, rfl, rfl, un0⟩
    · rw [if_neg c0, if_neg (hb.resolve_left c0)]
      exact ⟨_, _, _, _, _, rfl, rfl, un0⟩
  rw [eb, if_neg hb1, if_pos hb2, if_neg (show ¬ (1 : Int32) = 0 by decide)]
  obtain ⟨I2, J2, f1, f2, f3, f4, f5⟩ := findChances_is hsr h.k hM hN hm
  obtain ⟨Iz2, Jz2, W, B, g1, g2, g3, g4, -⟩ := f5 _ Jz KeepZ.thr.y
  have z2 : Iz2 (z + 1) 1 = nI n := by rw [(KeepZ.thr.tr g2).1]; exact h.z1
  rw [g1, Option.bind_some]
  try dsimp only
  by_cases n0 : n = 0
  · rw [if_pos (show I c 0 = 0 by rw [h.c0, n0]; rfl)]
    have l0 : r_chancellor_29 2000 Iz2 Jz2 z (nI m) 2000 (-1) 0 = some (-1, 0) := by
      rw [r_chancellor_29, show Int32.toNatClampNeg 1 = 1 from rfl, z2, n0, if_pos (show nI 0 ≤ 0 by decide)]
    rw [l0]
    exact ⟨_, _, _, _, _, rfl, rfl, unc_of hcx (fun _ _ _ _ _ _ => rfl) (fun _ _ _ _ => rfl) (KeepZ.thr.tr g2) (g3 _ (by omega)) hM⟩
  · rw [if_neg (show ¬ I c 0 = 0 by rw [h.c0]; exact fun cc => n0 ((nI_eq (b := 0) (by omega) (by omega)).mp cc)), f1, Option.bind_some]
    try dsimp only
    have c2 : I2 c 0 = nI n := by rw [f2 c (by omega) (by omega) (by omega) (by omega) (by omega)]; exact h.c0
    have s0 : r_chancellor_29 2000 Iz2 Jz2 z (nI m) 2000 (-1) 0 = r_chancellor_29 2000 Iz2 Jz2 z (nI m) 1999 0 (nI 1) := by
      rw [r_chancellor_29, show Int32.toNatClampNeg 1 = 1 from rfl, z2, if_neg (show ¬ nI n ≤ 0 from nI_nle (by omega) (by omega)), if_pos rfl]
      rfl
    obtain ⟨r, y1, y2⟩ := best_go2 (W := W) (J2 := J2) (Jz2 := Jz2) (x := x) (c := c) (z := z) (g := nI m) (g' := nI m) hn c2 z2 (fun p hp => by rw [(g4 p hp).1, (g4 p hp).2.1]) (n - 1) 1 2000 1999 0 (by omega) (by omega) (by omega) (by omega)
    have y1 : x_chancellor_34 2000 I2 J2 x c (nI m) 2000 0 1 = _ := y1
    have y2 : r_chancellor_29 2000 Iz2 Jz2 z (nI m) 1999 0 (nI 1) = _ := y2
    rw [s0, y1, y2]
    exact ⟨_, _, _, _, _, rfl, rfl, unc_of hcx f2 f3 (KeepZ.thr.tr g2) (g3 _ (by omega)) f4⟩
end
