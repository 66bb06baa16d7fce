/-! trays: numbers, write -/
theorem uJ_row (J : Nat → Nat → Int64) (a k q : Nat) (v : Int64) (h : q ≠ a) : uJ J a k v q = J q := if_neg h
theorem uJ_e (J : Nat → Nat → Int64) (a k : Nat) (v : Int64) : uJ J a k v a k = v := by
  unfold uJ vp_updL
  rw [if_pos rfl, if_pos rfl]
theorem uJ_k (J : Nat → Nat → Int64) (a k j : Nat) (v : Int64) (h : j ≠ k) : uJ J a k v a j = J a j := by
  unfold uJ vp_updL
  rw [if_pos rfl, if_neg h]
theorem fill_go {T : Nat → Option (Nat × Nat)} {qa L : Nat} (hL : lenT T qa = L) (hb : L < 1000) : ∀ (j k f : Nat) (J : Nat → Nat → Int64), k + j = L → j < f → (∀ i, i < k → J qa i = 0) → ∃ J1, fillJ_6 2000 T qa 0 (nI L) f (nI k) J = some (nI L, J1) ∧ (∀ i, i < L → J1 qa i = 0) ∧ ∀ q, q ≠ qa → J1 q = J q := by
  intro j
  induction j with
  | zero =>
    intro k f J hk hf h0
    obtain ⟨f, rfl⟩ : ∃ f', f = f' + 1 := ⟨f - 1, by omega⟩
    obtain rfl : k = L := by omega
    rw [fillJ_6, if_pos (nI_le (Nat.le_refl _) (by omega))]
    exact ⟨J, rfl, h0, fun _ _ => rfl⟩
  | succ j ih =>
    intro k f J hk hf h0
    obtain ⟨f, rfl⟩ : ∃ f', f = f' + 1 := ⟨f - 1, by omega⟩
    rw [fillJ_6, if_neg (nI_ge (by omega) (by omega)), hL, chk_nI (by omega) (by omega), nI_cl (by omega), nI_1]
    obtain ⟨J1, a1, a2, a3⟩ := ih (k + 1) f (uJ J qa k 0) (by omega) (by omega) (fun i hi => by
      by_cases e : i = k
      · subst e; exact uJ_e _ _ _ _
      · rw [uJ_k _ _ _ _ _ e]; exact h0 i (by omega))
    exact ⟨J1, a1, a2, fun q hq => by rw [a3 q hq, uJ_row _ _ _ _ _ hq]⟩
theorem fill_is {T : Nat → Option (Nat × Nat)} {qa L : Nat} {J : Nat → Nat → Int64} (hL : lenT T qa = L) (hb : L < 1000) : ∃ J1, fillJ 2000 T J qa 0 = some J1 ∧ (∀ i, i < L → J1 qa i = 0) ∧ ∀ q, q ≠ qa → J1 q = J q := by
  obtain ⟨J1, a1, a2⟩ := fill_go (T := T) hL hb L 0 2000 J (by omega) (by omega) (fun i hi => absurd hi (by omega))
  have a1 : fillJ_6 2000 T qa 0 (nI L) 2000 0 J = _ := a1
  unfold fillJ
  try dsimp only
  rw [hL, a1, Option.bind_some]
  exact ⟨J1, rfl, a2⟩
theorem rnum_go {z t m : Nat} {g2 : Int32} (ht : t < 4) (hm : m ≤ 40) : ∀ (j k f : Nat) (J : Nat → Nat → Int64), k + j = m → j < f → (∀ i, i < k → J (z + 20) (40 * t + i) = 0) → ∃ J1, r_numbers_64 2000 z (nI t) g2 (nI m) f (nI k) J = some (nI m, J1) ∧ (∀ i, i < m → J1 (z + 20) (40 * t + i) = 0) ∧ (∀ i, ¬ (40 * t ≤ i ∧ i < 40 * t + 40) → J1 (z + 20) i = J (z + 20) i) ∧ ∀ q, q ≠ z + 20 → J1 q = J q := by
  intro j
  induction j with
  | zero =>
    intro k f J hk hf h0
    obtain ⟨f, rfl⟩ : ∃ f', f = f' + 1 := ⟨f - 1, by omega⟩
    obtain rfl : k = m := by omega
    rw [r_numbers_64, if_pos (nI_le (Nat.le_refl _) (by omega))]
    exact ⟨J, rfl, h0, fun _ _ => rfl, fun _ _ => rfl⟩
  | succ j ih =>
    intro k f J hk hf h0
    obtain ⟨f, rfl⟩ : ∃ f', f = f' + 1 := ⟨f - 1, by omega⟩
    rw [r_numbers_64, if_neg (nI_ge (by omega) (by omega)), show (40 : Int32) * nI t = nI (40 * t) from pk_mul 40 t, nI_add, chk_nI (by omega) (by decide), nI_cl (by omega), nI_1]
    obtain ⟨J1, a1, a2, a3, a4⟩ := ih (k + 1) f (uJ J (z + 20) (40 * t + k) 0) (by omega) (by omega) (fun i hi => by
      by_cases e : i = k
      · subst e; exact uJ_e _ _ _ _
      · rw [uJ_k _ _ _ _ _ (by omega)]; exact h0 i (by omega))
    exact ⟨J1, a1, a2, fun i hi => by rw [a3 i hi, uJ_k _ _ _ _ _ (by omega)], fun q hq => by rw [a4 q hq, uJ_row _ _ _ _ _ hq]⟩
section
variable {T : Nat → Option (Nat × Nat)} {I : Nat → Nat → Int32} {J : Nat → Nat → Int64} {P : Nat → Nat → Option Nat} {x nn a c : Nat} {Iz : Nat → Nat → Int32} {Jz : Nat → Nat → Int64} {z N n u tn : Nat} {LT LP : Row → Int32} {d na v e : Nat}
/-- trays, tape and faults have become others; the court and its state are as they were -/
theorem InvS.swap (h : InvS T I J P x nn c Iz Jz z N n u tn LT LP d na v) {I2 Iz2 : Nat → Nat → Int32} {J2 Jz2 : Nat → Nat → Int64} {N' v' : Nat} (hN : N ≤ N') (z1 : Iz2 (z + 1) = Iz (z + 1)) (z2 : Iz2 (z + 2) = Iz (z + 2)) (hI : ∀ q, ¬ Scr x c q → q ≠ x + 1 → ¬ (x + 135 ≤ q ∧ q ≤ x + 142) → I2 q = I q) (ht : TrayR I2 J2 x Iz2 Jz2 z) (hp : TapeR I2 x Iz2 z) (hf : I2 (x + 2) 0 = Iz2 z 13 ∧ I2 (x + 2) 1 = Iz2 z 14) (h9 : I2 x 9 = nI v') (hv : 1 ≤ v' ∧ v' ≤ N' + 1) : InvS T I2 J2 P x nn c Iz2 Jz2 z N' n u tn LT LP d na v' := by
  have hn := h.n6
  obtain ⟨g1, g2, g3, g4, g5, g6, g7, g8, g9, g10⟩ := h
  have hcc := g1 c (Or.inl rfl)
  have hcx := hcc.1.1
  have nb : ∀ k, Lc P x c k → ∀ q, k ≤ q → q ≤ k + 4 → I2 q = I q := fun k hk q a1 a2 => by
    have hk1 := (g1 k hk).1.1
    have hk2 := ((g1 k hk).2 c (Or.inl rfl)).1
    exact hI q (by unfold Scr; omega) (by omega) (by omega)
  have nw : ∀ k, Lc P x c k → ∀ w, P k 8 = some w ∨ P k 9 = some w → I2 (w + 1) = I (w + 1) := fun k hk w hw => by
    have hk1 := (g1 k hk).1.2.2 w hw
    have hk2 := ((g1 k hk).2 c (Or.inl rfl)).2 w hw
    exact hI _ (by unfold Scr; omega) (by omega) (by omega)
  refine ⟨g1, ?_, ?_, ht, hp, hf, fun i hi => ?_, h9, hv.1, hv.2⟩
  · rw [z1]
    exact g2.same hN (nb c (Or.inl rfl)) (nw c (Or.inl rfl)) (fun q a1 a2 => hI q (by unfold Scr; omega) (by omega) (by omega))
  · obtain ⟨p1, p2, p3, p4, p5, p6⟩ := g3
    have e19 : I2 (x + 19) = I (x + 19) := hI _ (by unfold Scr; omega) (by omega) (by omega)
    refine ⟨p1, p2, by rw [z1]; exact p3, by rw [e19]; exact p4, by rw [e19]; exact p5, fun j hj => ?_⟩
    obtain ⟨uj, a1, a2, a3⟩ := p6 j hj
    rw [z1]
    have hm := Nat.mod_lt (na + 10 - d + j) (show 0 < 10 by decide)
    exact ⟨uj, a1, a2.same (fun q b1 b2 => hI q (by unfold Scr; omega) (by omega) (by omega)), a3.row hn hN (fun _ _ _ => rfl)⟩
  · rcases g7 i hi with ⟨a1, a2⟩ | ⟨a1, ci, n1, w1, tn1, LT1, LP1, a2, a3⟩
    · exact Or.inl ⟨by rw [z2]; exact a1, a2⟩
    · have hL : Lc P x c ci := Or.inr ⟨i, hi, a2⟩
      have er : irow Iz2 z i = irow Iz z i := by
        funext k
        unfold irow
        rw [z1]
      refine Or.inr ⟨by rw [z2]; exact a1, ci, n1, w1, tn1, LT1, LP1, a2, ?_⟩
      rw [er]
      exact a3.same hN (nb ci hL) (nw ci hL) (fun q b1 b2 => hI q (by unfold Scr; omega) (by omega) (by omega))
def KeepT (J J2 : Nat → Nat → Int64) (x : Nat) : Prop := ∀ q, x + 143 ≤ q → J2 q = J q
theorem numbers_call (hsr : isSR T P x) (h : InvS T I J P x nn c Iz Jz z N n u tn LT LP d na v) (hN : N < 600) (a b w : Int32) : ∃ r I2 J2 Iz2 Jz2, x_numbers 2000 T I J x a b w = some (r, I2, J2) ∧ r_numbers 2000 Iz Jz z a b w = some (r, Iz2, Jz2) ∧ KeepT J J2 x ∧ (Done T I I2 J2 P x nn c Iz2 Jz2 z N v ∨ (Unq I I2 x c Iz Iz2 z ∧ J2 = J ∧ Jz2 = Jz)) := by
  have hcx := (h.1 c (Or.inl rfl)).1.1
  have kt : KeepT J J x := fun _ _ => rfl
  have cmp : ∀ (y : Int32) (m : Nat), m < 1000 → (y < 0 ∨ nI (m + 1) ≤ y) → ¬ y < 0 → ¬ y ≤ nI m := fun y m hm hy h0 cc => by
    rcases hy with hy | hy
    · exact h0 hy
    have e1 := Int32.le_iff_toInt_le.mp cc
    have e2 := Int32.le_iff_toInt_le.mp hy
    have e3 : (nI m).toInt < (nI (m + 1)).toInt := Int32.lt_iff_toInt_lt.mp ((nI_ltI (by omega) (by omega)).mpr (by omega))
    omega
  unfold x_numbers r_numbers
  try dsimp only
  rcases arg_cases a 4 (by decide) with ha | ⟨t, ht, rfl⟩
  · rw [noTray_bad ha, within03_bad ha, if_neg (show ¬ (1 : Int32) = 0 by decide), if_pos rfl]
    exact ⟨_, _, _, _, _, rfl, rfl, kt, Or.inr ⟨unq_0, rfl, rfl⟩⟩
  rw [noTray_ok ht, within03_ok ht, if_pos rfl, if_neg (show ¬ (1 : Int32) = 0 by decide)]
  rcases arg_cases b 4 (by decide) with hb | ⟨s, hs, rfl⟩
  · rw [within03_bad hb, if_pos rfl]
    by_cases c0 : b < 0
    · rw [if_pos c0]
      exact ⟨_, _, _, _, _, rfl, rfl, kt, Or.inr ⟨unq_0, rfl, rfl⟩⟩
    · rw [if_neg c0, if_neg (show ¬ b ≤ 3 from cmp b 3 (by decide) hb c0)]
      exact ⟨_, _, _, _, _, rfl, rfl, kt, Or.inr ⟨unq_0, rfl, rfl⟩⟩
  rw [within03_ok hs, if_neg (show ¬ (1 : Int32) = 0 by decide), if_neg (show ¬ nI s < 0 from nI_nlt (b := 0) (by omega) (by omega)), if_pos (show nI s ≤ 3 from nI_le (b := 3) (by omega) (by omega))]
  rcases arg_cases w 41 (by decide) with hw | ⟨m, hm, rfl⟩
  · rw [show r_within (Int32.toInt64 w) 0 40 = 0 from within_bad (n := 41) (by decide) hw, if_pos rfl]
    by_cases c0 : w < 0
    · rw [if_pos c0]
      exact ⟨_, _, _, _, _, rfl, rfl, kt, Or.inr ⟨unq_0, rfl, rfl⟩⟩
    · rw [if_neg c0, if_neg (show ¬ w ≤ 40 from cmp w 40 (by decide) hw c0)]
      exact ⟨_, _, _, _, _, rfl, rfl, kt, Or.inr ⟨unq_0, rfl, rfl⟩⟩
  rw [show r_within (Int32.toInt64 (nI m)) 0 40 = 1 from within_ok (n := 41) (by decide) hm, if_neg (show ¬ (1 : Int32) = 0 by decide), if_neg (show ¬ nI m < 0 from nI_nlt (b := 0) (by omega) (by omega)), if_pos (show nI m ≤ 40 from nI_le (b := 40) (by omega) (by omega)), chk_nI (k := t) (N := 4) ht (by decide), chk_nI (k := t) (N := 4) ht (by decide), nI_cl (show t < 2147483648 by omega)]
  have hL : lenT T (x + (135 + 2 * t) + 1) = 40 := by
    have := (hsr.ob91 (i := nI t) (vp_in_nI ht (by decide))).1 1 (22, 40) rfl
    rw [nI_cl (by omega)] at this
    unfold lenT
    rw [this]
  obtain ⟨J1, j1, j2, j3⟩ := fill_is (J := J) hL (by decide)
  obtain ⟨Jz1, k1, k2, k3, k4⟩ := rnum_go (z := z) (g2 := nI s) ht (show m ≤ 40 by omega) m 0 2000 Jz (by omega) (by omega) (fun i hi => absurd hi (by omega))
  have k1 : r_numbers_64 2000 z (nI t) (nI s) (nI m) 2000 0 Jz = _ := k1
  unfold ty_begin
  try dsimp only
  rw [j1, k1, Option.bind_some, Option.bind_some, Option.bind_some]
  try dsimp only
  refine ⟨_, _, _, _, _, rfl, rfl, fun q hq => j3 q (by omega), Or.inl ⟨⟨n, u, tn, LT, LP, d, na, ?_⟩, fun q a1 a2 a3 => ?_⟩⟩
  · have h9 : I x 9 = nI v := h.2.2.2.2.2.2.2.1
    refine h.swap (by omega) ?_ ?_ (fun q b1 b2 b3 => ?_) ?_ ?_ ?_ ?_ ⟨by omega, by have := h.2.2.2.2.2.2.2.2.2; omega⟩
    · rw [uI_row _ _ _ _ _ (by omega), uI_row _ _ _ _ _ (by omega), uI_row _ _ _ _ _ (by omega)]
    · rw [uI_row _ _ _ _ _ (by omega), uI_row _ _ _ _ _ (by omega), uI_row _ _ _ _ _ (by omega)]
    · rw [uI_row _ _ _ _ _ (by unfold Scr at b1; omega), uI_row _ _ _ _ _ (by omega), uI_row _ _ _ _ _ (by omega)]
    · intro t' ht'
      by_cases et : t' = t
      · subst et
        refine ⟨m, by omega, uI_e _ _ _ _, by rw [uI_row _ _ _ _ _ (by omega), uI_e], ?_, fun i hi => ?_⟩
        · rw [uI_row _ _ _ _ _ (by omega), uI_k _ _ _ _ _ (by decide), uI_e, uI_row _ _ _ _ _ (by omega), uI_e]
        · rw [j2 i (by omega), k2 i hi]
      · obtain ⟨m', a1, a2, a3, a4, a5⟩ := h.2.2.2.1 t' ht'
        refine ⟨m', a1, ?_, ?_, ?_, fun i hi => ?_⟩
        · rw [uI_k _ _ _ _ _ et, uI_row _ _ _ _ _ (by omega), uI_row _ _ _ _ _ (by omega)]; exact a2
        · rw [uI_row _ _ _ _ _ (by omega), uI_row _ _ _ _ _ (by omega), uI_row _ _ _ _ _ (by omega)]; exact a3
        · rw [uI_row _ _ _ _ _ (by omega), uI_row _ _ _ _ _ (by omega), uI_row _ _ _ _ _ (by omega), uI_row _ _ _ _ _ (by omega), uI_k _ _ _ _ _ et, uI_row _ _ _ _ _ (by omega)]; exact a4
        · rw [j3 _ (by omega), k3 _ (by omega)]; exact a5 i hi
    · obtain ⟨tp, a1, a2, a3, a4⟩ := h.2.2.2.2.1
      refine ⟨tp, a1, by rw [uI_k _ _ _ _ _ (by decide), uI_row _ _ _ _ _ (by omega), uI_row _ _ _ _ _ (by omega)]; exact a2, by rw [uI_row _ _ _ _ _ (by omega), uI_row _ _ _ _ _ (by omega), uI_k _ _ _ _ _ (by decide)]; exact a3, fun k hk => ?_⟩
      rw [uI_row _ _ _ _ _ (by omega), uI_row _ _ _ _ _ (by omega), uI_row _ _ _ _ _ (by omega), uI_row _ _ _ _ _ (by omega), uI_row _ _ _ _ _ (by omega), uI_row _ _ _ _ _ (by omega)]
      exact a4 k hk
    · obtain ⟨f1, f2⟩ := h.2.2.2.2.2.1
      rw [uI_row _ _ _ _ _ (by omega), uI_row _ _ _ _ _ (by omega), uI_row _ _ _ _ _ (by omega), uI_row _ _ _ _ _ (by omega), uI_row _ _ _ _ _ (by omega), uI_k _ _ _ _ _ (by decide), uI_k _ _ _ _ _ (by decide)]
      exact ⟨f1, f2⟩
    · rw [uI_e, uI_row _ _ _ _ _ (by omega), uI_row _ _ _ _ _ (by omega), h9, nI_1]
  · rw [uI_row _ _ _ _ _ (by omega), uI_row _ _ _ _ _ (by omega), uI_row _ _ _ _ _ (by omega)]
end
