/-! chances: what was asked last; chance, chancellor -/
def AnsC (I : Nat → Nat → Int32) (J : Nat → Nat → Int64) (x : Nat) (Iz : Nat → Nat → Int32) (Jz : Nat → Nat → Int64) (z : Nat) (m : Int32) : Prop := ∃ (Iz2 : Nat → Nat → Int32) (Jz2 : Nat → Nat → Int64) (W : Nat → Nat) (B : Nat), r_laysFirsts 2000 Iz Jz z m = some (Iz2, Jz2) ∧ KeepZ Iz Iz2 z ∧ (∀ q, q ≠ z + 17 → Jz2 q = Jz q) ∧ (∀ p, p < 6 → Jz2 (z + 17) p = lN (W p) ∧ J (x + 222) p = lN (W p) ∧ W p < 2 ^ 40) ∧ 1 ≤ B ∧ B < 2 ^ 40 ∧ J (x + 219) 2 = lN B ∧ ∀ g1 g3, ∃ y, r_chance_52 2000 Iz2 z g1 m g3 2000 1 0 = some (lN B, y)
def Mcha (I : Nat → Nat → Int32) (J : Nat → Nat → Int64) (x : Nat) (Iz : Nat → Nat → Int32) (z v : Nat) : Prop := ∃ k, k ≤ v ∧ I (x + 221) 0 = nI k ∧ (k = v → ∀ Iz' Jz', KeepY Iz Iz' z → AnsC I J x Iz' Jz' z (I (x + 221) 1))
theorem Mcha.keep {I I2 : Nat → Nat → Int32} {J J2 : Nat → Nat → Int64} {x : Nat} {Iz Iz2 : Nat → Nat → Int32} {z v : Nat} (h : Mcha I J x Iz z v) (hx : KMc I I2 x) (hj : J2 (x + 222) = J (x + 222)) (hj2 : J2 (x + 219) 2 = J (x + 219) 2) (hz : KeepY Iz Iz2 z) : Mcha I2 J2 x Iz2 z v := by
  obtain ⟨k, h1, h2, h3⟩ := h
  have hx : I2 (x + 221) = I (x + 221) := hx
  refine ⟨k, h1, by rw [hx]; exact h2, fun e Iz' Jz' hk => ?_⟩
  have := h3 e Iz' Jz' (hz.tr hk)
  unfold AnsC at *
  rw [hx, hj, hj2]
  exact this
theorem Mcha.past {I I2 : Nat → Nat → Int32} {J J2 : Nat → Nat → Int64} {x : Nat} {Iz Iz2 : Nat → Nat → Int32} {z v : Nat} (h : Mcha I J x Iz z v) (hx : I2 (x + 221) 0 = I (x + 221) 0) : Mcha I2 J2 x Iz2 z (v + 1) := by
  obtain ⟨k, h1, h2, h3⟩ := h
  exact ⟨k, by omega, hx.trans h2, fun e => by omega⟩
theorem mws_9 {f : Nat → Nat} : ∀ (j t : Nat), (∀ i, t ≤ i → i < t + j → f i ≤ 9) → mws f j t ≤ 9 * j
  | 0, t, _ => by rw [mws]; omega
  | j + 1, t, h => by
    rw [mws]
    have h1 := h t (by omega) (by omega)
    have h2 := mws_9 (f := f) j (t + 1) (fun i a b => h i (by omega) (by omega))
    omega
theorem msum_go {A : Row} {tn : Nat} (ht : tn ≤ 4) (hO : Ods A) : ∀ (j t : Nat), t + j = tn → msum A 22 t + nI (mws (od A) j t) = msum A 22 tn
  | 0, t, h => by
    obtain rfl : t = tn := by omega
    rw [mws]
    exact Int32.add_zero _
  | j + 1, t, h => by
    have := msum_go ht hO j (t + 1) (by omega)
    rw [← this, mws, ← nI_add, ← (hO t (by omega)).2, msum, Int32.add_assoc]
theorem msum_is {A : Row} {tn : Nat} (ht : tn ≤ 4) (hO : Ods A) : msum A 22 tn = nI (mws (od A) tn 0) := by
  have := msum_go ht hO tn 0 (by omega)
  rw [← this, msum]
  exact Int32.zero_add _
theorem pow36 {S M : Nat} (hS : S ≤ 36) (hM : M ≤ 6) : S ^ M < 2 ^ 40 := by
  have h1 : S ^ M ≤ 36 ^ M := Nat.pow_le_pow_left hS M
  have h2 : 36 ^ M ≤ 36 ^ 6 := Nat.pow_le_pow_right (by decide) hM
  have h3 : (36 : Nat) ^ 6 < 2 ^ 40 := by decide
  omega
section
variable {T : Nat → Option (Nat × Nat)} {I : Nat → Nat → Int32} {J : Nat → Nat → Int64} {P : Nat → Nat → Option Nat} {x nn c : Nat} {Iz : Nat → Nat → Int32} {Jz : Nat → Nat → Int64} {z N n u tn : Nat} {LT LP : Row → Int32} {d na v e : Nat}
theorem InvK.ods (h : InvK T I J P x nn c Iz Jz z N n u tn LT LP v) : Ods (Iz (z + 1)) := fun t ht => by
  obtain ⟨-, o, h1, h2⟩ := h.cc.1.2.2.2.2.2.1 t ht
  unfold od
  rw [h2, nI_cl (by omega)]
  exact ⟨h1, rfl⟩
theorem pow_go {S a : Nat} {g3 : Int32} (hS : S ≤ 36) : ∀ (j k f : Nat) (J : Nat → Nat → Int64), k + j = 7 → 1 ≤ k → j < f → (∀ i, i < k → J (x + 223) i = lN (S ^ i)) → ∃ J1, ch_find_43 2000 x c a g3 (nI S) f (nI k) J = some (nI 7, J1) ∧ (∀ i, i ≤ 6 → J1 (x + 223) i = lN (S ^ i)) ∧ ∀ q, q ≠ x + 223 → J1 q = J q := by
  intro j
  induction j with
  | zero =>
    intro k f J hk h1 hf hd
    obtain ⟨f, rfl⟩ : ∃ f', f = f' + 1 := ⟨f - 1, by omega⟩
    obtain rfl : k = 7 := by omega
    refine ⟨J, ?_, fun i hi => hd i (by omega), fun _ _ => rfl⟩
    rw [ch_find_43, if_pos (show (6 : Int32) < nI 7 by decide)]
  | succ j ih =>
    intro k f J hk h1 hf hd
    obtain ⟨f, rfl⟩ : ∃ f', f = f' + 1 := ⟨f - 1, by omega⟩
    rw [ch_find_43, if_neg (show ¬ (6 : Int32) < nI k from nI_nlt (a := 6) (by omega) (by omega)), show nI k - 1 = nI (k - 1) from nI_SB (b := 1) h1, chk_nI (show k - 1 < 7 by omega) (by decide), chk_nI (show k < 7 by omega) (by decide), nI_cl (show k - 1 < 2147483648 by omega), nI_cl (show k < 2147483648 by omega), hd (k - 1) (by omega), nI_l (show S < 2 ^ 31 by omega), lN_mul, ← Nat.pow_succ, show (k - 1).succ = k by omega, nI_1]
    try dsimp only
    obtain ⟨J1, e1, e2, e3⟩ := ih (k + 1) f (uJ J (x + 223) k (lN (S ^ k))) (by omega) (by omega) (by omega) (fun i hi => by
      by_cases e : i = k
      · subst e; rw [uJ_e]
      · rw [uJ_k _ _ _ _ _ e]; exact hd i (by omega))
    exact ⟨J1, e1, e2, fun q hq => by rw [e3 q hq, uJ_row _ _ _ _ _ hq]⟩
theorem uP_c (h : Apx P x c) : Apx (uP P (x + 219) 5 (some c)) x c := by
  have hcx := h.1
  refine ⟨hcx, fun w hw => ?_⟩
  rw [uP_n _ _ _ (show c ≠ x + 219 by omega)] at hw
  exact h.2 w hw
/-- the class's chances, from so many minutes on -/
theorem chw_is (hsr : isSR T P x) (h : InvK T I J P x nn c Iz Jz z N n u tn LT LP v) (hN : N < 600) {m M S : Nat} {g3 w : Int32} (hM : M ≤ 6) (hw : w = nI M) (hS : mws (od (Iz (z + 1))) tn 0 = S) (h36 : S ≤ 36) : ∃ I2 J2, ((ch_find_43 2000 x c (x + 12) g3 (nI S) 2000 1 (uJ J (x + 223) (Int32.toNatClampNeg 0) 1)).bind (fun q16 => let m18 := q16.1; let J19 := q16.2; chk ((uI I (x + 219) 6 w) (x + 219) 6) 7 (let J21 := uJ J19 (x + 219) 2 (J19 (x + 223) (Int32.toNatClampNeg ((uI I (x + 219) 6 w) (x + 219) 6))); (fillJ 2000 T J21 (x + 222) 0).bind (fun q23 => let J25 := q23; (s_copyFrom (uI I (x + 219) 6 w) (x + (158 + 7 * (Int32.toNatClampNeg 0))) (x + 12)).bind (fun q26 => let I28 := q26; (ch_weighB_f 2000 T I28 J25 (uP P (x + 219) 5 (some c)) x c 0 1).bind (fun q29 => let I31 := q29.1; let J32 := q29.2; some (I31, J32))))))) = some (I2, J2) ∧ (∀ q, ¬ (x + 158 ≤ q ∧ q ≤ x + 213) → q ≠ x + 219 → q ≠ c + 5 → q ≠ c + 6 → q ≠ c + 7 → I2 q = I q) ∧ (∀ q, q ≠ x + 219 → q ≠ x + 222 → q ≠ x + 223 → J2 q = J q) ∧ (∀ p, p < 6 → J2 (x + 222) p = lN (mwt LT LP n tn M u (Iz (z + 1)) p)) ∧ J2 (x + 219) 2 = lN (S ^ M) := by
  have hcx := h.apx.1
  subst hw
  obtain ⟨J3, f1, f2, f3⟩ := pow_go (x := x) (c := c) (a := x + 12) (g3 := g3) h36 6 1 2000 (uJ J (x + 223) 0 1) (by omega) (by omega) (by omega) (fun i hi => by
    obtain rfl : i = 0 := by omega
    rw [uJ_e]; rfl)
  have f1 : ch_find_43 2000 x c (x + 12) g3 (nI S) 2000 1 (uJ J (x + 223) (Int32.toNatClampNeg 0) 1) = _ := f1
  rw [f1, Option.bind_some]
  try dsimp only
  rw [uI_e, chk_nI (show M < 7 by omega) (by decide), nI_cl (show M < 2147483648 by omega), f2 M hM]
  have hL : lenT T (x + 222) = 6 := by
    have := hsr.1 222 _ rfl
    unfold lenT
    rw [this]
  obtain ⟨J4, j1, j2, j3⟩ := fill_is (J := uJ J3 (x + 219) 2 (lN (S ^ M))) hL (by decide)
  rw [j1, Option.bind_some]
  try dsimp only
  have hX : KeepX I (uI I (x + 219) 6 (nI M)) x c := KeepX.of (fun q hq => uI_row _ _ _ _ _ (fun cc => hq (by unfold Scr; omega))) (uI_row _ _ _ _ _ (by omega)) (uI_row _ _ _ _ _ (by omega))
  have hI7 : InvK T (uI I (x + 219) 6 (nI M)) J P x nn c Iz Jz z N n u tn LT LP v := h.keep hsr hX (fun _ _ => rfl) (fun _ _ _ _ => rfl) KeepY.rf rfl
  obtain ⟨I1, e, c1, he, C1, q1⟩ := cz_start hI7
  have C2 : Cz T I1 (uP P (x + 219) 5 (some c)) x c 0 n u tn LT LP (Iz (z + 1)) e := by
    obtain ⟨D1, D2, D3, D4⟩ := C1
    exact ⟨D1, D2.px (by rw [uP_n _ _ _ (show c ≠ x + 219 by omega), uP_n _ _ _ (show c ≠ x + 214 by omega)]) (by rw [uP_n _ _ _ (show c ≠ x + 219 by omega), uP_n _ _ _ (show c ≠ x + 214 by omega)]), D3, D4⟩
  rw [c1, Option.bind_some]
  try dsimp only
  have pw : Pw I1 J4 x (0 + M) S := ⟨by rw [q1 _ (by omega), uI_e, Nat.zero_add], by omega, fun k hk => by rw [j3 _ (by omega), uJ_row _ _ _ _ _ (by omega), f2 k hk]⟩
  obtain ⟨I2, J2, w1, w2, w3, w4, w5⟩ := cweigh_is (uP_c h.apx) M 0 10 e u 1 (Iz (z + 1)) I1 J4 (by omega) (by omega) (by omega) C2 h.ods hS pw
  unfold ch_weighB_f
  have w1 : ch_weigh 2000 T (uP P (x + 219) 5 (some c)) x c 10 0 1 I1 J4 = _ := w1
  rw [w1]
  refine ⟨I2, J2, rfl, fun q a1 a2 a3 a4 a5 => ?_, fun q a1 a2 a3 => ?_, fun p hp => ?_, ?_⟩
  · by_cases e7 : q = x + 217
    · subst e7
      rw [w3, q1 _ (by omega), uI_row _ _ _ _ _ (by omega)]
    · rw [w2.1 q (by omega) e7 a3 a4 a5, q1 q (by omega), uI_row _ _ _ _ _ a2]
  · rw [w5 q a2, j3 q a2, uJ_row _ _ _ _ _ a1, f3 q a3, uJ_row _ _ _ _ _ a3]
  · rw [w4 p hp, j2 p hp, Nat.one_mul]
    exact Int64.zero_add _
  · rw [w5 _ (by omega), j3 _ (by omega), uJ_e]
theorem chfind_is (hsr : isSR T P x) (h : InvK T I J P x nn c Iz Jz z N n u tn LT LP v) (hN : N < 600) {m M S : Nat} (hm : m ≤ 6) (hS : mws (od (Iz (z + 1))) tn 0 = S) (hM : M = if S = 0 then 0 else m) (h36 : S ≤ 36) : ∃ I2 J2, ch_find 2000 T I J P x c (x + 12) (nI m) = some (I2, J2) ∧ (∀ q, ¬ (x + 158 ≤ q ∧ q ≤ x + 213) → q ≠ x + 219 → q ≠ c + 5 → q ≠ c + 6 → q ≠ c + 7 → I2 q = I q) ∧ (∀ q, q ≠ x + 219 → q ≠ x + 222 → q ≠ x + 223 → J2 q = J q) ∧ (∀ p, p < 6 → J2 (x + 222) p = lN (mwt LT LP n tn M u (Iz (z + 1)) p)) ∧ J2 (x + 219) 2 = lN (S ^ M) := by
  have hal : ct_allOdds 2000 I c = some (nI S) := by
    rw [ct_odds_is h.t4 h.c1 (fun t ht => (h.cc.1.2.2.2.2.2.1 t ht).1), msum_is h.t4 h.ods, hS]
  unfold ch_find
  try dsimp only
  rw [hal, Option.bind_some]
  by_cases s0 : S = 0
  · rw [if_pos (show nI S = 0 by rw [s0]; rfl)]
    rw [if_pos s0] at hM
    exact chw_is (m := m) hsr h hN (by omega) (by rw [hM]; rfl) hS h36
  · rw [if_neg (show ¬ nI S = 0 from fun cc => s0 ((nI_eq (b := 0) (by omega) (by omega)).mp cc))]
    rw [if_neg s0] at hM
    have em : imin (nI m) 6 = nI M := by
      rw [imin_eq, if_neg (show ¬ (6 : Int32) < nI m from nI_nlt (a := 6) (by omega) (by omega)), hM]
    exact chw_is (m := m) hsr h hN (by omega) em hS h36
theorem zero_go {g : Int32} : ∀ (j k f : Nat) (Jz : Nat → Nat → Int64), k + j = 6 → j < f → (∀ i, i < k → Jz (z + 17) i = 0) → ∃ J1, r_laysFirsts_2 2000 z g f (nI k) Jz = some (nI 6, J1) ∧ (∀ i, i < 6 → J1 (z + 17) i = 0) ∧ ∀ q, q ≠ z + 17 → J1 q = Jz q := by
  intro j
  induction j with
  | zero =>
    intro k f J hk hf hd
    obtain ⟨f, rfl⟩ : ∃ f', f = f' + 1 := ⟨f - 1, by omega⟩
    obtain rfl : k = 6 := by omega
    refine ⟨J, ?_, hd, fun _ _ => rfl⟩
    rw [r_laysFirsts_2, if_pos (show (6 : Int32) ≤ nI 6 by decide)]
  | succ j ih =>
    intro k f J hk hf hd
    obtain ⟨f, rfl⟩ : ∃ f', f = f' + 1 := ⟨f - 1, by omega⟩
    rw [r_laysFirsts_2, if_neg (show ¬ (6 : Int32) ≤ nI k from nI_ge (b := 6) (by omega) (by decide)), chk_nI (show k < 6 by omega) (by decide), nI_cl (show k < 2147483648 by omega), nI_1]
    obtain ⟨J1, e1, e2, e3⟩ := ih (k + 1) f (uJ J (z + 17) k 0) (by omega) (by omega) (fun i hi => by
      by_cases e : i = k
      · subst e; rw [uJ_e]
      · rw [uJ_k _ _ _ _ _ e]; exact hd i (by omega))
    exact ⟨J1, e1, e2, fun q hq => by rw [e3 q hq, uJ_row _ _ _ _ _ hq]⟩
theorem mo_is {A : Row} {m M S : Nat} (hz : Iz (z + 1) = A) (h4 : tn ≤ 4) (h2 : A 2 = nI tn) (hO : Ods A) (hS : mws (od A) tn 0 = S) (h36 : S ≤ 36) (hM : M = if S = 0 then 0 else m) : r_oddsAll 2000 Iz z = some (nI S) ∧ r_minutesOf 2000 Iz z (nI m) = some (nI M) := by
  have ho : r_oddsAll 2000 Iz z = some (nI S) := by
    rw [r_odds_is h4 (by rw [hz]; exact h2), hz, msum_is h4 hO, hS]
  refine ⟨ho, ?_⟩
  unfold r_minutesOf
  rw [ho, Option.bind_some]
  try dsimp only
  by_cases s0 : S = 0
  · rw [if_pos (show nI S = 0 by rw [s0]; rfl), hM, if_pos s0]
    rfl
  · rw [if_neg (show ¬ nI S = 0 from fun cc => s0 ((nI_eq (b := 0) (by omega) (by omega)).mp cc)), hM, if_neg s0]
theorem who_go {m M S : Nat} {g1 g3 : Int32} (hM6 : M ≤ 6) (h36 : S ≤ 36) (ho : r_oddsAll 2000 Iz z = some (nI S)) (hm : r_minutesOf 2000 Iz z (nI m) = some (nI M)) : ∀ (j k f : Nat), k + j = M → j < f → r_chance_52 2000 Iz z g1 (nI m) g3 f (lN (S ^ k)) (nI k) = some (lN (S ^ M), nI M) := by
  intro j
  induction j with
  | zero =>
    intro k f hk hf
    obtain ⟨f, rfl⟩ : ∃ f', f = f' + 1 := ⟨f - 1, by omega⟩
    obtain rfl : k = M := by omega
    rw [r_chance_52, hm, Option.bind_some]
    try dsimp only
    rw [if_pos (nI_le (Nat.le_refl _) (by omega))]
  | succ j ih =>
    intro k f hk hf
    obtain ⟨f, rfl⟩ : ∃ f', f = f' + 1 := ⟨f - 1, by omega⟩
    rw [r_chance_52, hm, Option.bind_some]
    try dsimp only
    rw [if_neg (nI_ge (by omega) (by omega)), ho, Option.bind_some]
    try dsimp only
    rw [nI_l (show S < 2 ^ 31 by omega), lN_mul, ← Nat.pow_succ, nI_1]
    exact ih (k + 1) f (by omega) (by omega)
/-- what the reference lays of chances -/
theorem firsts_is (h : InvK T I J P x nn c Iz Jz z N n u tn LT LP v) (hN : N < 600) {m M S : Nat} (hm : m ≤ 6) (hS : mws (od (Iz (z + 1))) tn 0 = S) (hM : M = if S = 0 then 0 else m) (h36 : S ≤ 36) {Jz' : Nat → Nat → Int64} : ∃ Iz2 Jz2, r_laysFirsts 2000 Iz Jz' z (nI m) = some (Iz2, Jz2) ∧ KeepZ Iz Iz2 z ∧ (∀ q, q ≠ z + 17 → Jz2 q = Jz' q) ∧ (∀ p, p < 6 → Jz2 (z + 17) p = lN (mwt LT LP n tn M u (Iz (z + 1)) p)) ∧ ∀ g1 g3, ∃ y, r_chance_52 2000 Iz2 z g1 (nI m) g3 2000 1 0 = some (lN (S ^ M), y) := by
  have hM6 : M ≤ 6 := by rw [hM]; split <;> omega
  obtain ⟨e, he, hR⟩ := h.rz (Iz1 := Iz) rfl
  obtain ⟨J1, f1, f2, f3⟩ := zero_go (z := z) (g := nI m) 6 0 2000 Jz' (by omega) (by omega) (fun i hi => by omega)
  have f1 : r_laysFirsts_2 2000 z (nI m) 2000 0 Jz' = _ := f1
  obtain ⟨o1, o2⟩ := mo_is (m := m) (Iz := Iz) rfl h.t4 h.z2 h.ods hS h36 hM
  obtain ⟨Iz2, Jz2, w1, w2, w3, w4, w5⟩ := rweigh_is M 0 10 e u 1 Iz J1 (by omega) (by omega) (by omega) hR h.ods
  unfold r_laysFirsts
  rw [f1, Option.bind_some]
  try dsimp only
  rw [o2, Option.bind_some]
  try dsimp only
  unfold r_plays1B_f
  rw [Nat.zero_add] at w1
  have w1 : r_plays1 2000 z 10 0 (nI M) 1 Iz J1 = _ := w1
  rw [w1]
  have kz2 : KeepZ Iz Iz2 z := w2.keep w3
  obtain ⟨o3, o4⟩ := mo_is (m := m) (Iz := Iz2) w3 h.t4 h.z2 h.ods hS h36 hM
  refine ⟨Iz2, Jz2, rfl, kz2, fun q hq => by rw [w5 q hq, f3 q hq], fun p hp => ?_, fun g1 g3 => ⟨nI M, ?_⟩⟩
  · rw [w4 p hp, f2 p hp, Nat.one_mul]
    exact Int64.zero_add _
  · exact who_go (g1 := g1) (g3 := g3) hM6 h36 o3 o4 M 0 2000 (by omega) (by omega)
end
