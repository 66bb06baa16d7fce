/-! music: some sit in a told order; lists -/
theorem or_tab : ∀ s, s < 64 → ∀ k, k < 6 → nI s ||| ((1 : Int32) <<< (nI k &&& 31)) = nI (s ||| 2 ^ k) := by decide +kernel
theorem or_lt : ∀ s, s < 64 → ∀ k, k < 6 → s ||| 2 ^ k < 64 := by decide +kernel
section
variable {T : Nat → Option (Nat × Nat)} {I : Nat → Nat → Int32} {J : Nat → Nat → Int64} {P : Nat → Nat → Option Nat} {x nn c : Nat} {Iz : Nat → Nat → Int32} {Jz : Nat → Nat → Int64} {z N n u tn : Nat} {LT LP : Row → Int32} {d na v e : Nat}
theorem isPerson_l {s : Int64} (h : Iz (z + 1) 1 = nI n) (hn : n ≤ 6) : r_isPerson Iz z s = some (if ∃ k : Nat, k < n ∧ s = lN k then 1 else 0) := by
  by_cases hk : ∃ k : Nat, k < n ∧ s = lN k
  · rw [if_pos hk]
    obtain ⟨k, hk, rfl⟩ := hk
    rw [← nI_l (show k < 2147483648 by omega)]
    exact isPerson_ok h (by omega) hk
  · rw [if_neg hk]
    unfold r_isPerson
    rw [show Int32.toNatClampNeg 1 = 1 from rfl, h]
    have h0 : r_within s 0 (Int32.toInt64 (nI n - 1)) = 0 := by
      refine within_out ?_
      by_cases c0 : s < 0
      · exact Or.inl c0
      · right
        obtain ⟨k, hk2, rfl⟩ := pk_lOf c0
        have : n ≤ k := Nat.not_lt.mp fun cc => hk ⟨k, cc, rfl⟩
        rw [i64_lt, pk_lT hk2, Int32.toInt_toInt64]
        have := pk_sub_toInt (a := n) (b := 1) (by omega) (by decide)
        rw [show (nI n - 1).toInt = ((n : Int) - 1) from this]
        omega
    rw [h0, isb_0]
theorem lt_per {s : Int64} (hn : n ≤ 6) : (¬ (lg_cmp s 0) < 0 ∧ ¬ 0 ≤ (lg_cmp s (Int32.toInt64 (nI n)))) ↔ ∃ k : Nat, k < n ∧ s = lN k := by
  rw [Int32.not_le, lg_cmp_lt, lg_cmp_lt, nI_l (by omega)]
  constructor
  · rintro ⟨h1, h2⟩
    obtain ⟨k, hk, rfl⟩ := pk_lOf h1
    exact ⟨k, (pk_lLT hk (by omega)).mp h2, rfl⟩
  · rintro ⟨k, hk, rfl⟩
    refine ⟨fun cc => ?_, (pk_lLT (by omega) (by omega)).mpr hk⟩
    rw [i64_lt, pk_lT (by omega)] at cc
    have : (0 : Int64).toInt = 0 := rfl
    omega
theorem ord_go {tb t m : Nat} {g g1 g2 : Int32} (hn : n ≤ 6) (ht : t < 4) (hm : m ≤ 6) (hg1 : g1 = nI t) (hc0 : I c 0 = nI n) (hI : I tb 1 = nI m) (hz1 : Iz (z + 1) 1 = nI n) (h19 : Iz (z + 19) t = nI m) (hJ : ∀ i, i < m → J (tb + 1) i = Jz (z + 20) (40 * t + i)) : ∀ (j k f f' s : Nat), k + j = m → j < f → j < f' → s < 64 → (x_codeOfOrder_53 2000 I J x c tb g f (nI s) (nI k) = some (.inl (-3)) ∧ r_noSits_37 2000 Iz Jz z g1 g2 f' (nI s) (nI k) = some (.inl (-3))) ∨ (∃ s1 s2, x_codeOfOrder_53 2000 I J x c tb g f (nI s) (nI k) = some (.inr (s1, nI m)) ∧ r_noSits_37 2000 Iz Jz z g1 g2 f' (nI s) (nI k) = some (.inr (s2, nI m)) ∧ ∀ i, k ≤ i → i < m → ∃ y : Nat, y < n ∧ Jz (z + 20) (40 * t + i) = lN y) := by
  subst hg1
  intro j
  induction j with
  | zero =>
    intro k f f' s hk hf hf' hs
    obtain ⟨f, rfl⟩ : ∃ f', f = f' + 1 := ⟨f - 1, by omega⟩
    obtain ⟨f', rfl⟩ : ∃ g, f' = g + 1 := ⟨f' - 1, by omega⟩
    obtain rfl : k = m := by omega
    right
    rw [x_codeOfOrder_53, hI, if_pos (nI_le (Nat.le_refl _) (by omega)), r_noSits_37, chk_nI ht (by decide), nI_cl (by omega), h19, if_pos (nI_le (Nat.le_refl _) (by omega))]
    exact ⟨_, _, rfl, rfl, fun i h1 h2 => by omega⟩
  | succ j ih =>
    intro k f f' s hk hf hf' hs
    obtain ⟨f, rfl⟩ : ∃ f', f = f' + 1 := ⟨f - 1, by omega⟩
    obtain ⟨f', rfl⟩ : ∃ g, f' = g + 1 := ⟨f' - 1, by omega⟩
    rw [x_codeOfOrder_53, hI, if_neg (nI_ge (by omega) (by omega)), chk_nI (show k < 40 by omega) (by decide), nI_cl (show k < 2147483648 by omega), hJ k (by omega), hc0]
    rw [r_noSits_37, chk_nI ht (by decide), nI_cl (by omega), h19, if_neg (nI_ge (by omega) (by omega)), show (40 : Int32) * nI t = nI (40 * t) from pk_mul 40 t, nI_add, chk_nI (show 40 * t + k < 160 by omega) (by decide), nI_cl (show 40 * t + k < 2147483648 by omega)]
    try dsimp only
    rw [isPerson_l hz1 hn, Option.bind_some]
    try dsimp only
    by_cases hs1 : ∃ y : Nat, y < n ∧ Jz (z + 20) (40 * t + k) = lN y
    · have hl := (lt_per (s := Jz (z + 20) (40 * t + k)) hn).mpr hs1
      rw [if_pos hs1, if_neg (show ¬ (1 : Int32) = 0 by decide), if_neg hl.1, if_neg hl.2]
      obtain ⟨y, hy, ey⟩ := hs1
      rw [ey, lN_i, isIn_tab s hs y (by omega)]
      have sb : ((((nI s) >>> (nI y &&& 31)) &&& 1) = 0) ↔ ub s y = false := Eq.to_iff (shr_bit hs (show y < 6 by omega))
      cases hb : ub s y with
      | true =>
        rw [if_neg (fun cc => by rw [sb.mp cc] at hb; cases hb), if_neg (show ¬ b2 true = 0 by decide)]
        exact Or.inl ⟨rfl, rfl⟩
      | false =>
        rw [if_pos (sb.mpr hb), if_pos (show b2 false = 0 from rfl), or_tab s hs y (by omega), nI_1]
        rcases ih (k + 1) f f' (s ||| 2 ^ y) (by omega) (by omega) (by omega) (or_lt s hs y (by omega)) with h1 | ⟨s1, s2, h1, h2, h3⟩
        · exact Or.inl h1
        · refine Or.inr ⟨s1, s2, h1, h2, fun i a1 a2 => ?_⟩
          by_cases e : i = k
          · subst e; exact ⟨y, hy, ey⟩
          · exact h3 i (by omega) a2
    · rw [if_neg hs1, if_pos (show (0 : Int32) = 0 from rfl)]
      refine Or.inl ⟨?_, rfl⟩
      by_cases c0 : lg_cmp (Jz (z + 20) (40 * t + k)) 0 < 0
      · rw [if_pos c0]
      · rw [if_neg c0]
        by_cases c1 : 0 ≤ lg_cmp (Jz (z + 20) (40 * t + k)) (Int32.toInt64 (nI n))
        · rw [if_pos c1]
        · exact absurd ((lt_per hn).mp ⟨c0, c1⟩) hs1
/-- the questions ahead of sits -/
theorem orderCode_is (h : InvS T I J P x nn c Iz Jz z N n u tn LT LP d na v) (a : Int32) : ∃ r, x_codeOfOrder 2000 I J x c a = some r ∧ r_noSits 2000 (uI Iz z 0 0) Jz z a = some r ∧ (r = 0 → ∃ (t m : Nat) (o : Nat → Nat), a = nI t ∧ t < 4 ∧ m < 6 ∧ I (x + (135 + 2 * t)) 1 = nI (m + 1) ∧ Iz (z + 19) t = nI (m + 1) ∧ ∀ i, i < m + 1 → o i < n ∧ Jz (z + 20) (40 * t + i) = lN (o i) ∧ J (x + (135 + 2 * t) + 1) i = lN (o i)) := by
  have hn := h.n6
  have z1 : uI Iz z 0 0 (z + 1) = Iz (z + 1) := thr_row (by decide)
  have z18 : uI Iz z 0 0 (z + 18) = Iz (z + 18) := thr_row (by decide)
  have z19 : uI Iz z 0 0 (z + 19) = Iz (z + 19) := thr_row (by decide)
  have n2 : ∀ r : Int32, r ≠ 0 → r = 0 → ∃ (t m : Nat) (o : Nat → Nat), a = nI t ∧ t < 4 ∧ m < 6 ∧ I (x + (135 + 2 * t)) 1 = nI (m + 1) ∧ Iz (z + 19) t = nI (m + 1) ∧ ∀ i, i < m + 1 → o i < n ∧ Jz (z + 20) (40 * t + i) = lN (o i) ∧ J (x + (135 + 2 * t) + 1) i = lN (o i) := fun r h1 h2 => absurd h2 h1
  unfold x_codeOfOrder r_noSits
  rcases arg_cases a 4 (by decide) with ha | ⟨t, ht, rfl⟩
  · rw [noTray_bad ha, rnoTray_bad ha, if_neg (show ¬ (1 : Int32) = 0 by decide)]
    exact ⟨_, rfl, rfl, n2 _ (by decide)⟩
  obtain ⟨m, t1, t2, t3, t4, t5⟩ := h.2.2.2.1 t ht
  rw [noTray_ok ht, if_pos rfl, rnoTray_ok ht, Option.bind_some, chk_nI ht (by decide), nI_cl (by omega), missing_is t4, z18]
  try dsimp only
  by_cases hs : Iz (z + 18) t = -1
  · rw [if_pos hs, if_pos hs, if_neg (show ¬ (1 : Int32) = 0 by decide), if_neg (show ¬ (-6 : Int32) = 0 by decide)]
    exact ⟨_, rfl, rfl, n2 _ (by decide)⟩
  rw [if_neg hs, if_neg hs, if_pos (show (0 : Int32) = 0 from rfl), if_pos (show (0 : Int32) = 0 from rfl), t3, chk_nI ht (by decide), z19, t2]
  have wi : r_within (Int32.toInt64 (nI m)) 1 6 = b2 (decide (1 ≤ m) && decide (m ≤ 6)) := by
    rw [nI_l (by omega)]
    exact wnum m 1 6 (by omega) (by decide) (by decide)
  rw [wi]
  by_cases m1 : m < 1
  · rw [if_pos (show nI m < 1 from nI_lt (b := 1) m1 (by decide)), decide_eq_false (show ¬ 1 ≤ m by omega)]
    exact ⟨_, rfl, rfl, n2 _ (by decide)⟩
  rw [if_neg (show ¬ nI m < 1 from nI_nlt (b := 1) (by omega) (by omega)), decide_eq_true (show 1 ≤ m by omega)]
  by_cases m6 : m ≤ 6
  · rw [if_pos (show nI m ≤ 6 from nI_le (b := 6) m6 (by decide)), decide_eq_true m6, if_neg (show ¬ b2 (true && true) = 0 by decide)]
    have o := ord_go (x := x) (c := c) (g := nI t) (g1 := nI t) (g2 := 0) (Iz := uI Iz z 0 0) hn ht m6 rfl h.c0 t3 (by rw [z1]; exact h.z1) (by rw [z19]; exact t2) t5 m 0 2000 2000 0 (by omega) (by omega) (by omega) (by omega)
    rcases o with ⟨h1, h2⟩ | ⟨s1, s2, h1, h2, h3⟩
    · have h1 : x_codeOfOrder_53 2000 I J x c (x + (135 + 2 * t)) (nI t) 2000 0 0 = _ := h1
      have h2 : r_noSits_37 2000 (uI Iz z 0 0) Jz z (nI t) 0 2000 0 0 = _ := h2
      rw [h1, h2]
      exact ⟨_, rfl, rfl, n2 _ (by decide)⟩
    · have h1 : x_codeOfOrder_53 2000 I J x c (x + (135 + 2 * t)) (nI t) 2000 0 0 = _ := h1
      have h2 : r_noSits_37 2000 (uI Iz z 0 0) Jz z (nI t) 0 2000 0 0 = _ := h2
      rw [h1, h2]
      refine ⟨_, rfl, rfl, fun _ => ⟨t, m - 1, fun i => (Int64.toInt32 (Jz (z + 20) (40 * t + i))).toNatClampNeg, rfl, ht, by omega, by rw [show m - 1 + 1 = m by omega]; exact t3, by rw [show m - 1 + 1 = m by omega]; exact t2, fun i hi => ?_⟩⟩
      obtain ⟨y, hy, ey⟩ := h3 i (by omega) (by omega)
      try dsimp only
      rw [t5 i (by omega), ey, lN_i, nI_cl (by omega)]
      exact ⟨hy, rfl, rfl⟩
  · rw [if_neg (show ¬ nI m ≤ 6 from nI_ge (a := 6) (by omega) (by omega)), decide_eq_false m6]
    exact ⟨_, rfl, rfl, n2 _ (by decide)⟩
theorem fo_go {ty m : Nat} {o : Nat → Nat} {g3 g5 : Int32} {a : Nat} (hm : m ≤ 6) : ∀ (j k f : Nat) (I : Nat → Nat → Int32), k + j = m → j < f → I (x + 214) 8 = nI m → (∀ i, i < m → J (ty + 1) i = lN (o i)) → (∀ i, i < k → I (x + 218) i = nI (o i)) → ∃ I1, mu_findOrder_39 2000 J x c a ty g3 g5 f (nI k) I = some (nI m, I1) ∧ (∀ i, i < m → I1 (x + 218) i = nI (o i)) ∧ ∀ q, q ≠ x + 218 → I1 q = I q := by
  intro j
  induction j with
  | zero =>
    intro k f I hk hf h8 hJ hd
    obtain ⟨f, rfl⟩ : ∃ f', f = f' + 1 := ⟨f - 1, by omega⟩
    obtain rfl : k = m := by omega
    refine ⟨I, ?_, hd, fun _ _ => rfl⟩
    rw [mu_findOrder_39, h8, if_pos (nI_le (Nat.le_refl _) (by omega))]
  | succ j ih =>
    intro k f I hk hf h8 hJ hd
    obtain ⟨f, rfl⟩ : ∃ f', f = f' + 1 := ⟨f - 1, by omega⟩
    rw [mu_findOrder_39, h8, if_neg (nI_ge (by omega) (by omega)), chk_nI (show k < 40 by omega) (by decide), chk_nI (show k < 6 by omega) (by decide), nI_cl (show k < 2147483648 by omega), hJ k (by omega), lN_i, nI_1]
    obtain ⟨I1, e1, e2, e3⟩ := ih (k + 1) f (uI I (x + 218) k (nI (o k))) (by omega) (by omega) (by rw [uI_row _ _ _ _ _ (by omega)]; exact h8) hJ (fun i hi => by
      by_cases e : i = k
      · subst e; rw [uI_e]
      · rw [uI_k _ _ _ _ _ e]; exact hd i (by omega))
    exact ⟨I1, e1, e2, fun q hq => by rw [e3 q hq, uI_row _ _ _ _ _ hq]⟩
theorem KeepZ.z24 {w : Int32} : KeepZ Iz (uI Iz z 24 w) z :=
  ⟨uI_row _ _ _ _ _ (by omega), uI_row _ _ _ _ _ (by omega), uI_row _ _ _ _ _ (by omega), uI_row _ _ _ _ _ (by omega), uI_row _ _ _ _ _ (by omega), uI_k _ _ _ _ _ (by decide), uI_k _ _ _ _ _ (by decide), uI_k _ _ _ _ _ (by decide)⟩
theorem findOrder_is (hsr : isSR T P x) (h : InvK T I J P x nn c Iz Jz z N n u tn LT LP v) (hM : Mmus I x Iz Jz z v) (hN : N < 600) {t m : Nat} {o : Nat → Nat} (ht : t < 4) (hm : m < 6) (hI : I (x + (135 + 2 * t)) 1 = nI (m + 1)) (h19 : Iz (z + 19) t = nI (m + 1)) (ho : ∀ i, i < m + 1 → o i < n ∧ Jz (z + 20) (40 * t + i) = lN (o i) ∧ J (x + (135 + 2 * t) + 1) i = lN (o i)) : ∃ I2, mu_findOrder 2000 T I J P x c (x + 12) (x + (135 + 2 * t)) (I x 9) (nI t) = some I2 ∧ Mx I I2 x c ∧ Mmus I2 x Iz Jz z v ∧ ∀ Iz' Jz', KeepY Iz Iz' z → Jz' (z + 20) = Jz (z + 20) → AnsA I2 x (uI Iz' z 24 (nI t)) Jz' z (-1) := by
  have hcx := h.apx.1
  have h9 : I x 9 = nI v := h.v9.1
  have hv : v ≤ N + 1 := h.v9.2
  unfold mu_findOrder
  rw [h9]
  obtain ⟨I1, e1, e2, m0, m1, m2, m3, m4⟩ := knows_is I (x + 215) (nI v) 1 (nI t) 0 0
  obtain ⟨k, k1, k2, k3⟩ := hM
  have z1 : (1 : Int32) ≠ 0 := by decide
  rcases e1 with ⟨e1, n0, n1, n2, n3, n4⟩ | e1
  · rw [e1, Option.bind_some]
    try dsimp only
    rw [if_neg (show ¬ (1 : Int32) = 0 by decide)]
    have ek : k = v := by
      have n0 : I (x + 216) 0 = nI v := n0
      rw [k2] at n0
      exact (nI_eq (by omega) (by omega)).mp n0
    have hA : ∀ Iz' Jz', KeepY Iz Iz' z → Jz' (z + 20) = Jz (z + 20) → AnsA I1 x (uI Iz' z 24 (nI t)) Jz' z (-1) := fun Iz' Jz' hk hj => by
      have := (k3 ek Iz' Jz' hk hj).2 n1
      rw [show I (x + 216) 2 = nI t from n2] at this
      unfold AnsA at *
      rw [e2 _ (by omega), e2 _ (by omega)]
      exact this
    refine ⟨I1, rfl, fun r a1 a2 a3 a4 => e2 r (by omega), ⟨v, Nat.le_refl _, m0, fun _ Iz' Jz' hk hj => ⟨fun cc => ?_, fun _ => ?_⟩⟩, hA⟩
    · rw [show I1 (x + 216) 1 = 1 from m1] at cc
      exact absurd cc z1
    · rw [show I1 (x + 216) 2 = nI t from m2]
      exact hA Iz' Jz' hk hj
  · rw [e1, Option.bind_some]
    try dsimp only
    rw [if_pos rfl]
    have et : uI I1 (x + 214) 5 0 (x + (135 + 2 * t)) 1 = nI (m + 1) := by rw [uI_row _ _ _ _ _ (by omega), e2 _ (by omega)]; exact hI
    have em : imin (nI (m + 1)) 6 = nI (m + 1) := by
      rw [imin_eq, if_neg (show ¬ (6 : Int32) < nI (m + 1) from nI_nlt (a := 6) (by omega) (by omega))]
    rw [et, em]
    generalize hI8 : uI (uI I1 (x + 214) 5 0) (x + 214) 8 (nI (m + 1)) = I8
    have o8 : ∀ q, q ≠ x + 214 → I8 q = I1 q := fun q hq => by rw [← hI8, uI_row _ _ _ _ _ hq, uI_row _ _ _ _ _ hq]
    have h5 : I8 (x + 214) 5 = 0 := by rw [← hI8, uI_k _ _ _ _ _ (by decide), uI_e]
    have h8 : I8 (x + 214) 8 = nI (m + 1) := by rw [← hI8, uI_e]
    obtain ⟨I9, f1, f2, f3⟩ := fo_go (J := J) (x := x) (c := c) (a := x + 12) (ty := x + (135 + 2 * t)) (o := o) (g3 := nI v) (g5 := nI t) (m := m + 1) (by omega) (m + 1) 0 2000 I8 (by omega) (by omega) h8 (fun i hi => (ho i hi).2.2) (fun i hi => by omega)
    have f1 : mu_findOrder_39 2000 J x c (x + 12) (x + (135 + 2 * t)) (nI v) (nI t) 2000 0 I8 = _ := f1
    rw [f1, Option.bind_some]
    try dsimp only
    have hX : KeepX I I9 x c := KeepX.of (fun q hq => by rw [f3 q (fun cc => hq (by unfold Scr; omega)), o8 q (fun cc => hq (by unfold Scr; omega)), e2 q (fun cc => hq (by unfold Scr; omega))]) (by rw [f3 _ (by omega), o8 _ (by omega), e2 _ (by omega)]) (by rw [f3 _ (by omega), o8 _ (by omega), e2 _ (by omega)])
    have hI9' : ∀ Iz', KeepY Iz Iz' z → InvK T I9 J P x nn c Iz' Jz z N n u tn LT LP v := fun Iz' hk => h.keep hsr hX (fun _ _ => rfl) (fun _ _ _ _ => rfl) hk rfl
    have hq9 : AskC I9 x n (prO o m) (fiO o m) := askc_O hm (by rw [f3 _ (by omega)]; exact h5) (by rw [f3 _ (by omega)]; exact h8) (fun i hi => ⟨(ho i hi).1, f2 i hi⟩)
    have hm9 : Mono LT LP n (prO o m) := mono_O (o := o) (m := m) h.n6 (fun i hi => (ho i hi).1)
    obtain ⟨I2, w1, w2, -⟩ := fshort_is (hI9' Iz KeepY.rf) hN hm9 hq9
    rw [w1, Option.bind_some]
    have hA : ∀ Iz' Jz', KeepY Iz Iz' z → Jz' (z + 20) = Jz (z + 20) → AnsA I2 x (uI Iz' z 24 (nI t)) Jz' z (-1) := fun Iz' Jz' hk hj => by
      have hk2 : KeepY Iz (uI Iz' z 24 (nI t)) z := hk.tr (KeepZ.z24 (w := nI t)).y
      obtain ⟨e, he, hR⟩ := (hI9' _ hk2).rz (Iz1 := uI Iz' z 24 (nI t)) rfl
      obtain ⟨I2', w1', -, w3'⟩ := fshort_is (hI9' _ hk2) hN hm9 hq9
      rw [w1] at w1'
      have e2 : I2 = I2' := by injection w1'
      subst e2
      refine ans_of h.t4 w3' rfl (asks_O (o := o) hm ht (uI_e _ _ _ _) (by rw [hk2.2.2]; exact h19) (fun i hi => ⟨(ho i hi).1, by rw [hj]; exact (ho i hi).2.1⟩)) (by omega) hR
    have e216 : I2 (x + 216) = I1 (x + 216) := by rw [w2.1 _ (by omega) (by omega) (by omega) (by omega) (by omega), f3 _ (by omega), o8 _ (by omega)]
    refine ⟨I2, rfl, fun r a1 a2 a3 a4 => by rw [w2.1 r (by omega) (by omega) a2 a3 a4, f3 r (by omega), o8 r (by omega), e2 r (by omega)], ⟨v, Nat.le_refl _, by rw [e216]; exact m0, fun _ Iz' Jz' hk hj => ⟨fun cc => ?_, fun _ => ?_⟩⟩, hA⟩
    · rw [e216, show I1 (x + 216) 1 = 1 from m1] at cc
      exact absurd cc z1
    · rw [e216, show I1 (x + 216) 2 = nI t from m2]
      exact hA Iz' Jz' hk hj
theorem sits_call (hsr : isSR T P x) (h : InvS T I J P x nn c Iz Jz z N n u tn LT LP d na v) (hM : Mmus I x Iz Jz z v) (hN : N < 600) (a : Int32) : ∃ r I2 Iz2, x_sits 2000 T I J P x c a = some (r, I2) ∧ r_sits 2000 Iz Jz z a = some (r, Iz2) ∧ Unm I I2 x c Iz Iz2 Jz z v := by
  have hcx := h.apx.1
  obtain ⟨r, e1, e2, e3⟩ := orderCode_is h a
  unfold x_sits r_sits
  try dsimp only
  rw [e1, e2, Option.bind_some, Option.bind_some]
  try dsimp only
  by_cases hr : r = 0
  · rw [if_pos hr, if_pos hr]
    obtain ⟨t, m, o, rfl, ht, hm, y1, y2, y3⟩ := e3 hr
    obtain ⟨I2, f1, f2, f3, f4⟩ := findOrder_is hsr h.k hM hN ht hm y1 y2 y3
    obtain ⟨Iz2, g1, g2⟩ := f4 _ Jz KeepZ.thr.y rfl
    rw [chk_nI ht (by decide), nI_cl (by omega), f1, Option.bind_some]
    try dsimp only
    rcases g2 with ⟨a1, a2⟩ | ⟨m, -, a1, a2, -⟩
    · rw [a2, a1]
      exact ⟨_, _, _, rfl, rfl, unm_of hcx f2 ((KeepZ.thr.tr KeepZ.z24).tr g1) f3⟩
    · rw [a2, a1]
      exact ⟨_, _, _, rfl, rfl, unm_of hcx f2 ((KeepZ.thr.tr KeepZ.z24).tr g1) f3⟩
  · rw [if_neg hr, if_neg hr]
    exact ⟨_, _, _, rfl, rfl, unm_of hcx Mx.rf KeepZ.thr hM⟩
theorem sitsBy_call (hsr : isSR T P x) (h : InvS T I J P x nn c Iz Jz z N n u tn LT LP d na v) (hM : Mmus I x Iz Jz z v) (hN : N < 600) (a i : Int32) : ∃ r I2 Iz2, x_sitsBy 2000 T I J P x c a i = some (r, I2) ∧ r_sitsBy 2000 Iz Jz z a i = some (r, Iz2) ∧ Unm I I2 x c Iz Iz2 Jz z v := by
  have hcx := h.apx.1
  obtain ⟨r, e1, e2, e3⟩ := orderCode_is h a
  unfold x_sitsBy r_sitsBy
  try dsimp only
  rw [e1, e2, Option.bind_some, Option.bind_some]
  try dsimp only
  by_cases hr : r = 0
  · rw [if_pos hr, if_pos hr]
    by_cases hi : 0 ≤ i
    · rw [if_pos hi, if_pos hi]
      obtain ⟨t, m, o, rfl, ht, hm, y1, y2, y3⟩ := e3 hr
      obtain ⟨I2, f1, f2, f3, f4⟩ := findOrder_is hsr h.k hM hN ht hm y1 y2 y3
      obtain ⟨y, w, Iz2, g1, g2, g3, g4⟩ := tuneAt_is hi (f4 _ Jz KeepZ.thr.y rfl)
      rw [chk_nI ht (by decide), nI_cl (by omega), f1, g2, Option.bind_some, Option.bind_some]
      try dsimp only
      rw [g1, Option.bind_some]
      try dsimp only
      rcases g4 with ⟨b1, b2⟩ | ⟨b1, b2, b3⟩
      · rw [if_pos b1, b2]
        exact ⟨_, _, _, rfl, rfl, unm_of hcx f2 ((KeepZ.thr.tr KeepZ.z24).tr g3) f3⟩
      · rw [if_neg b1, chk_in b2, b3]
        exact ⟨_, _, _, rfl, rfl, unm_of hcx f2 ((KeepZ.thr.tr KeepZ.z24).tr g3) f3⟩
    · rw [if_neg hi, if_neg hi]
      exact ⟨_, _, _, rfl, rfl, unm_of hcx Mx.rf KeepZ.thr hM⟩
  · rw [if_neg hr, if_neg hr]
    exact ⟨_, _, _, rfl, rfl, unm_of hcx Mx.rf KeepZ.thr hM⟩
end
