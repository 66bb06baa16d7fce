/-! music: lists -/
section
variable {T : Nat → Option (Nat × Nat)} {I : Nat → Nat → Int32} {J : Nat → Nat → Int64} {P : Nat → Nat → Option Nat} {x nn c : Nat} {Iz : Nat → Nat → Int32} {Jz : Nat → Nat → Int64} {z N n u tn : Nat} {LT LP : Row → Int32} {d na v e : Nat}
theorem xl_go {tb m w : Nat} {g1 g2 : Int32} (hw : w ≤ 40) (hwm : w ≤ m) (hm : m < 8) (h3 : I (x + 214) 3 = nI m) : ∀ (j k f : Nat) (J : Nat → Nat → Int64), k + j = w → j < f → ∃ J1, x_lists_103 2000 I x c tb g1 g2 (nI w) f (nI k) J = some (nI w, J1) ∧ (∀ i, k ≤ i → i < w → J1 (tb + 1) i = Int32.toInt64 (I (x + 217) i)) ∧ (∀ i, ¬ (k ≤ i ∧ i < w) → J1 (tb + 1) i = J (tb + 1) i) ∧ ∀ q, q ≠ tb + 1 → J1 q = J q := by
  intro j
  induction j with
  | zero =>
    intro k f J hk hf
    obtain ⟨f, rfl⟩ : ∃ f', f = f' + 1 := ⟨f - 1, by omega⟩
    obtain rfl : k = w := by omega
    refine ⟨J, ?_, fun i a b => by omega, fun _ _ => rfl, fun _ _ => rfl⟩
    rw [x_lists_103, if_pos (nI_le (Nat.le_refl _) (by omega))]
  | succ j ih =>
    intro k f J hk hf
    obtain ⟨f, rfl⟩ : ∃ f', f = f' + 1 := ⟨f - 1, by omega⟩
    have tu : mu_tuneAt I x (nI k) = some (I (x + 217) k) := by
      unfold mu_tuneAt
      rw [if_neg (show ¬ nI k < 0 from nI_nlt (b := 0) (by omega) (by omega)), h3, if_neg (show ¬ nI m ≤ nI k from nI_ge (by omega) (by omega)), if_neg (show ¬ nI 7 ≤ nI k from nI_ge (by omega) (by omega)), chk_nI (show k < 7 by omega) (by decide), nI_cl (by omega)]
    rw [x_lists_103, if_neg (nI_ge (by omega) (by omega)), tu, Option.bind_some]
    try dsimp only
    rw [chk_nI (show k < 40 by omega) (by decide), nI_cl (show k < 2147483648 by omega), nI_1]
    obtain ⟨J1, e1, e2, e3, e4⟩ := ih (k + 1) f (uJ J (tb + 1) k (Int32.toInt64 (I (x + 217) k))) (by omega) (by omega)
    refine ⟨J1, e1, fun i a b => ?_, fun i hi => ?_, fun q hq => by rw [e4 q hq, uJ_row _ _ _ _ _ hq]⟩
    · by_cases e : i = k
      · subst e
        rw [e3 i (by omega), uJ_e]
      · exact e2 i (by omega) b
    · rw [e3 i (by omega), uJ_k _ _ _ _ _ (by omega)]
theorem rl_go {t w : Nat} {g2 g3 g4 : Int32} (ht : t < 4) (hw : w ≤ 40) (hm : w < 8) : ∀ (j k f : Nat) (J : Nat → Nat → Int64), k + j = w → j < f → ∃ J1, r_lists_96 2000 Iz z (nI t) g2 g3 g4 (nI w) f (nI k) J = some (nI w, J1) ∧ (∀ i, k ≤ i → i < w → J1 (z + 20) (40 * t + i) = Int32.toInt64 (Iz (z + 11) i)) ∧ (∀ i, ¬ (40 * t + k ≤ i ∧ i < 40 * t + w) → J1 (z + 20) i = J (z + 20) i) ∧ ∀ q, q ≠ z + 20 → J1 q = J q := by
  intro j
  induction j with
  | zero =>
    intro k f J hk hf
    obtain ⟨f, rfl⟩ : ∃ f', f = f' + 1 := ⟨f - 1, by omega⟩
    obtain rfl : k = w := by omega
    refine ⟨J, ?_, fun i a b => by omega, fun _ _ => rfl, fun _ _ => rfl⟩
    rw [r_lists_96, if_pos (nI_le (Nat.le_refl _) (by omega))]
  | succ j ih =>
    intro k f J hk hf
    obtain ⟨f, rfl⟩ : ∃ f', f = f' + 1 := ⟨f - 1, by omega⟩
    rw [r_lists_96, if_neg (nI_ge (by omega) (by omega)), chk_nI (show k < 8 by omega) (by decide), show (40 : Int32) * nI t = nI (40 * t) from pk_mul 40 t, nI_add, chk_nI (show 40 * t + k < 160 by omega) (by decide), nI_cl (show 40 * t + k < 2147483648 by omega), nI_cl (show k < 2147483648 by omega), nI_1]
    try dsimp only
    obtain ⟨J1, e1, e2, e3, e4⟩ := ih (k + 1) f (uJ J (z + 20) (40 * t + k) (Int32.toInt64 (Iz (z + 11) k))) (by omega) (by omega)
    refine ⟨J1, e1, fun i a b => ?_, fun i hi => ?_, fun q hq => by rw [e4 q hq, uJ_row _ _ _ _ _ hq]⟩
    · by_cases e : i = k
      · subst e
        rw [e3 _ (by omega), uJ_e]
      · exact e2 i (by omega) b
    · rw [e3 i (by omega), uJ_k _ _ _ _ _ (by omega)]
def DoneL (T : Nat → Option (Nat × Nat)) (I I2 : Nat → Nat → Int32) (J J2 : Nat → Nat → Int64) (P : Nat → Nat → Option Nat) (x nn c : Nat) (Iz2 : Nat → Nat → Int32) (Jz2 : Nat → Nat → Int64) (z N v : Nat) : Prop := (∃ n u tn LT LP d na, InvS T I2 J2 P x nn c Iz2 Jz2 z (N + 1) n u tn LT LP d na (v + 1)) ∧ KeepT J J2 x ∧ KMr I I2 x ∧ KMw I I2 x ∧ KMc I I2 x ∧ Mmus I2 x Iz2 Jz2 z (v + 1)
theorem lists_call (hsr : isSR T P x) (h : InvS T I J P x nn c Iz Jz z N n u tn LT LP d na v) (hM : Mmus I x Iz Jz z v) (hN : N < 600) (a b : Int32) : ∃ r I2 J2 Iz2 Jz2, x_lists 2000 T I J P x c a b = some (r, I2, J2) ∧ r_lists 2000 Iz Jz z a b = some (r, Iz2, Jz2) ∧ (DoneL T I I2 J J2 P x nn c Iz2 Jz2 z N v ∨ (Unm I I2 x c Iz Iz2 Jz z v ∧ J2 = J ∧ Jz2 = Jz)) := by
  have hcx := h.apx.1
  have hn := h.n6
  have z1 : uI Iz z 0 0 (z + 1) = Iz (z + 1) := thr_row (by decide)
  have z18 : uI Iz z 0 0 (z + 18) = Iz (z + 18) := thr_row (by decide)
  have z19 : uI Iz z 0 0 (z + 19) = Iz (z + 19) := thr_row (by decide)
  have un0 : Unm I I x c Iz (uI Iz z 0 0) Jz z v := unm_of hcx Mx.rf KeepZ.thr hM
  unfold x_lists r_lists
  try dsimp only
  rcases arg_cases a 4 (by decide) with ha | ⟨t, ht, rfl⟩
  · rw [noTray_bad ha, within03_bad ha, if_neg (show ¬ (1 : Int32) = 0 by decide), if_pos rfl]
    exact ⟨_, _, _, _, _, rfl, rfl, Or.inr ⟨un0, rfl, rfl⟩⟩
  rw [noTray_ok ht, within03_ok ht, if_pos rfl, if_neg (show ¬ (1 : Int32) = 0 by decide)]
  rcases arg_cases b n (by omega) with hb | ⟨p, hp, rfl⟩
  · rw [noPerson_bad h.c0 hn hb, isPerson_bad (by rw [z1]; exact h.z1) hn hb, if_neg (show ¬ (1 : Int32) = 0 by decide), Option.bind_some]
    exact ⟨_, _, _, _, _, rfl, rfl, Or.inr ⟨un0, rfl, rfl⟩⟩
  obtain ⟨w, t1, t2, t3, t4, t5⟩ := h.2.2.2.1 t ht
  rw [noPerson_ok h.c0 hn hp, isPerson_ok (by rw [z1]; exact h.z1) hn hp, if_pos rfl, Option.bind_some]
  try dsimp only
  rw [if_neg (show ¬ (1 : Int32) = 0 by decide), rnoTray_ok ht, Option.bind_some, chk_nI (k := t) (N := 4) ht (by decide), nI_cl (show t < 2147483648 by omega), missing_is t4, z18]
  try dsimp only
  by_cases e0 : Iz (z + 18) t = -1
  · rw [if_pos e0, if_pos e0, if_neg (show ¬ (1 : Int32) = 0 by decide), if_neg (show ¬ (-6 : Int32) = 0 by decide)]
    exact ⟨_, _, _, _, _, rfl, rfl, Or.inr ⟨un0, rfl, rfl⟩⟩
  rw [if_neg e0, if_neg e0, if_pos rfl, if_pos (show (0 : Int32) = 0 from rfl), s_isUp_is (u := u) (h.rs.2.1.trans h.wf.2.2.1) h.wf.u64 (by omega), r_isUp_is (u := u) (by rw [z1]; exact h.wf.2.2.1) h.wf.u64 (by omega), Option.bind_some]
  try dsimp only
  cases hb : ub u p with
  | false =>
    rw [if_pos (show b2 false = 0 from rfl), if_pos (show b2 false = 0 from rfl)]
    exact ⟨_, _, _, _, _, rfl, rfl, Or.inr ⟨un0, rfl, rfl⟩⟩
  | true =>
    rw [if_neg (show ¬ b2 true = 0 by decide), if_neg (show ¬ b2 true = 0 by decide)]
    obtain ⟨I8, f1, f2, f3, f4⟩ := findAlone_is hsr h.k hM hN hp
    obtain ⟨Iz2, g1, g2⟩ := f4 _ Jz KeepZ.thr.y rfl
    have kz : KeepZ Iz Iz2 z := KeepZ.thr.tr g1
    have un8 : Unm I I8 x c Iz Iz2 Jz z v := unm_of hcx f2 kz f3
    rw [f1, Option.bind_some]
    try dsimp only
    rcases g2 with ⟨a1, a2⟩ | ⟨m, a0, a1, a2, a3⟩
    · rw [a1, if_pos rfl, a2, Option.bind_some]
      try dsimp only
      rw [if_pos (show (-1 : Int32) = -1 from rfl)]
      exact ⟨_, _, _, _, _, rfl, rfl, Or.inr ⟨un8, rfl, rfl⟩⟩
    · have nm : ¬ nI m = -1 := fun cc => by
        have := i32_eq.mp cc
        rw [nI_toInt (by omega)] at this
        have k1 : (-1 : Int32).toInt = -1 := rfl
        omega
      rw [a1, if_neg nm, a2, Option.bind_some]
      try dsimp only
      have e19 : Iz2 (z + 19) t = nI w := by rw [kz.2.2.2.2.1]; exact t2
      rw [if_neg nm, chk_nI (k := t) (N := 4) ht (by decide), f2 (x + (135 + 2 * t)) (by omega) (by omega) (by omega) (by omega), t3, imin_eq]
      have fin : ∀ y : Nat, y ≤ m → y ≤ w → ∃ J2 Jz2, x_lists_103 2000 I8 x c (x + (135 + 2 * t)) (nI t) (nI p) (nI y) 2000 0 J = some (nI y, J2) ∧ (∀ g3 g4, r_lists_96 2000 Iz2 z (nI t) (nI p) g3 g4 (nI y) 2000 0 Jz = some (nI y, Jz2)) ∧ DoneL T I (uI I8 x 9 (I8 x 9 + 1)) J J2 P x nn c Iz2 Jz2 z N v := fun y hy1 hy2 => by
        obtain ⟨J2, j1, j2, j3, j4⟩ := xl_go (x := x) (I := I8) (c := c) (tb := x + (135 + 2 * t)) (g1 := nI t) (g2 := nI p) (show y ≤ 40 by omega) hy1 a0 a1 y 0 2000 J (by omega) (by omega)
        have rr : ∀ g3 g4 : Int32, ∃ J1, r_lists_96 2000 Iz2 z (nI t) (nI p) g3 g4 (nI y) 2000 0 Jz = some (nI y, J1) ∧ (∀ i, 0 ≤ i → i < y → J1 (z + 20) (40 * t + i) = Int32.toInt64 (Iz2 (z + 11) i)) ∧ (∀ i, ¬ (40 * t + 0 ≤ i ∧ i < 40 * t + y) → J1 (z + 20) i = Jz (z + 20) i) ∧ ∀ q, q ≠ z + 20 → J1 q = Jz q := fun g3 g4 => rl_go ht (by omega) (by omega) y 0 2000 Jz (by omega) (by omega)
        obtain ⟨Jz2, l1, l2, l3, l4⟩ := rr 0 0
        refine ⟨J2, Jz2, j1, fun g3 g4 => ?_, ?_⟩
        · obtain ⟨Jz3, m1, m2, m3, m4⟩ := rr g3 g4
          rw [m1]
          have e : Jz3 = Jz2 := by
            funext q k
            by_cases eq : q = z + 20
            · subst eq
              by_cases ek : 40 * t + 0 ≤ k ∧ k < 40 * t + y
              · have k1 := m2 (k - 40 * t) (by omega) (by omega)
                have k2 := l2 (k - 40 * t) (by omega) (by omega)
                rw [show 40 * t + (k - 40 * t) = k by omega] at k1 k2
                rw [k1, k2]
              · rw [m3 k ek, l3 k ek]
            · rw [m4 q eq, l4 q eq]
          rw [e]
        · have I8inv : InvS T I8 J P x nn c Iz2 Jz z N n u tn LT LP d na v := h.keep hsr un8.1 (fun _ _ => rfl) (fun _ _ _ _ => rfl) kz
          have h9 : I8 x 9 = nI v := I8inv.2.2.2.2.2.2.2.1
          have oo : ∀ q, q ≠ x → uI I8 x 9 (I8 x 9 + 1) q = I8 q := fun q hq => uI_row _ _ _ _ _ hq
          refine ⟨⟨n, u, tn, LT, LP, d, na, ?_⟩, fun q hq => j4 q (by omega), ⟨by rw [oo _ (by omega)]; exact un8.2.2.1.1, by rw [oo _ (by omega)]; exact un8.2.2.1.2.1, by rw [oo _ (by omega)]; exact un8.2.2.1.2.2⟩, ⟨by rw [oo _ (by omega)]; exact un8.2.2.2.1.1, by rw [oo _ (by omega)]; exact un8.2.2.2.1.2.1, by rw [oo _ (by omega)]; exact un8.2.2.2.1.2.2⟩, by unfold KMc; rw [oo _ (by omega)]; exact un8.2.2.2.2.1, f3.past (by rw [oo _ (by omega)])⟩
          refine I8inv.swap (by omega) rfl rfl (fun q b1 b2 b3 => oo q (by unfold Scr at b1; omega)) ?_ ?_ ?_ (by rw [uI_e, h9, nI_1]) ⟨by omega, by have := h.2.2.2.2.2.2.2.2.2; omega⟩
          · intro t' ht'
            obtain ⟨m', b1, b2, b3, b4, b5⟩ := I8inv.2.2.2.1 t' ht'
            refine ⟨m', b1, b2, by rw [oo _ (by omega)]; exact b3, by rw [oo _ (by omega)]; exact b4, fun i' hi' => ?_⟩
            by_cases et : t' = t
            · subst et
              by_cases ei : i' < y
              · rw [j2 i' (by omega) ei, l2 i' (by omega) ei, (a3 i' (by omega)).1]
              · rw [j3 i' (by omega), l3 _ (by omega)]; exact b5 i' hi'
            · rw [j4 _ (by omega), l3 _ (by omega)]; exact b5 i' hi'
          · obtain ⟨tp, b1, b2, b3, b4⟩ := I8inv.2.2.2.2.1
            refine ⟨tp, b1, by rw [uI_k _ _ _ _ _ (by decide)]; exact b2, b3, fun k hk => ?_⟩
            rw [oo _ (by omega)]
            exact b4 k hk
          · rw [oo _ (by omega)]
            exact I8inv.2.2.2.2.2.1
      by_cases c1 : w < m
      · rw [if_pos (show nI w < nI m from nI_lt c1 (by omega)), if_pos (show Iz2 (z + 19) t ≤ nI m by rw [e19]; exact nI_le (by omega) (by omega)), e19]
        obtain ⟨J2, Jz2, j1, l1, dn⟩ := fin w (by omega) (Nat.le_refl _)
        rw [j1, l1, Option.bind_some, Option.bind_some]
        exact ⟨_, _, _, _, _, rfl, rfl, Or.inl dn⟩
      · rw [if_neg (show ¬ nI w < nI m from nI_nlt (by omega) (by omega))]
        obtain ⟨J2, Jz2, j1, l1, dn⟩ := fin m (Nat.le_refl _) (by omega)
        rw [j1, Option.bind_some]
        try dsimp only
        by_cases c2 : w ≤ m
        · obtain rfl : w = m := by omega
          rw [if_pos (show Iz2 (z + 19) t ≤ nI w by rw [e19]; exact nI_le (Nat.le_refl _) (by omega)), e19, l1, Option.bind_some]
          exact ⟨_, _, _, _, _, rfl, rfl, Or.inl dn⟩
        · rw [if_neg (show ¬ Iz2 (z + 19) t ≤ nI m by rw [e19]; exact nI_ge (by omega) (by omega)), l1, Option.bind_some]
          exact ⟨_, _, _, _, _, rfl, rfl, Or.inl dn⟩
end
