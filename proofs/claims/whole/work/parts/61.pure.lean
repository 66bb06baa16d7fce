/-! on whom one leans; the fewest chairs -/
section
variable {T : Nat → Option (Nat × Nat)} {I : Nat → Nat → Int32} {J : Nat → Nat → Int64} {P : Nat → Nat → Option Nat} {x nn c : Nat} {Iz : Nat → Nat → Int32} {Jz : Nat → Nat → Int64} {z N n u tn : Nat} {LT LP : Row → Int32} {d na v e : Nat}
theorem Tx.crt {I1 : Nat → Nat → Int32} (h : Tx I I1 x c) (hcx : c = x + 4 ∨ x + 224 ≤ c) {q : Nat} (hq : c ≤ q ∧ q ≤ c + 4) : I1 q = I q := h.1 q (by omega) (by omega) (by omega) (by omega) (by omega) (by omega)
theorem Tx.sta {I1 : Nat → Nat → Int32} (h : Tx I I1 x c) (hcx : c = x + 4 ∨ x + 224 ≤ c) {q : Nat} (hq : x + 12 ≤ q ∧ q ≤ x + 100) : I1 q = I q := h.1 q (by omega) (by omega) (by omega) (by omega) (by omega) (by omega)
/-- one sits down on a State and on the row -/
theorem sm_seat {a p : Nat} (hS : Sm T I P a c Iz z n u tn LT LP e true) (hp : p < n) : ∃ I1 Iz1, s_seat I a (nI p) = some I1 ∧ r_sitsOwn Iz z (nI p) = some Iz1 ∧ Sm T I1 P a c Iz1 z n (clr u p) tn LT LP (e + 1) true ∧ Fx I I1 a c ∧ Fr Iz Iz1 z := by
  have hn := hS.1.1
  obtain ⟨I', q1, R1, q2⟩ := s_seat_is hS.1 hS.2.2.2.2.1 hp
  obtain ⟨IzB, f1, f2, f3⟩ := r_sitsOwn_is hS.1 hp
  have ev := Ev.seat (u := u) hn hp hS.2.2.2.2.2.2.2.1 hS.2.2.2.2.2.2.2.2
  have fx : Fx I I' a c := fun q a1 a2 a3 a4 => q2 q a1
  have fr : Fr Iz IzB z := ⟨fun q a1 a2 a3 a4 a5 => f3 q a1, fun k hk => by rw [f2, mseat_out2 (by omega) hk]⟩
  obtain ⟨h1, h2, h3, h4, h5, h6, h7, h8⟩ := hS
  refine ⟨I', IzB, q1, f1, ⟨by rw [f2]; exact h1.seat hp, h2.same (fun k hk => fr.2 k (by omega)), h3.same (fun k hk => fr.2 k (by omega)), ?_, by rw [f2]; exact R1, ⟨by rw [fr.2 _ (by omega)]; exact h6.1, h6.2⟩, h7, by rw [f2]; exact ev⟩, fx, fr⟩
  refine (h4.row (fun k hk => fr.2 k (by omega))).same (fun q a1 a2 => fx q (by have := h7.1; omega) (by omega) (by omega) (by omega)) (fun w hw => ?_)
  have := h7.2 w hw
  exact fx _ (by omega) (by omega) (by omega) (by omega)
theorem lean_go (h : InvS T I J P x nn c Iz Jz z N n u tn LT LP d na v) (hN : N < 600) {t m p us : Nat} {tl : Nat → Nat} {g1 g3 g1' g3' : Int32} (hg1 : g1' = nI t) (hp : p < n) (hus : us ≤ 30) : ∀ (j k f g : Nat) (s : Int32) (I1 Iz1 : Nat → Nat → Int32), k + j = n → j < f → j < g → Tx I I1 x c → Kz Iz Iz1 z → Ngt I1 x Iz1 Jz z t m tn tl →
    ∃ s' I2 Iz2, x_leans_48 2000 T P x c g1 (nI p) g3 (nI us) f s (nI k) I1 = some (s', nI n, I2) ∧ r_leans_40 2000 Jz z g1' (nI p) g3' (nI us) g s (nI k) Iz1 = some (s', nI n, Iz2) ∧ Tx I I2 x c ∧ Kz Iz Iz2 z := by
  have hcx := (h.1 c (Or.inl rfl)).1.1
  have hn := h.n6
  subst hg1
  intro j
  induction j with
  | zero =>
    intro k f g s I1 Iz1 hk hf hg hx hK hNg
    obtain ⟨f, rfl⟩ : ∃ f', f = f' + 1 := ⟨f - 1, by omega⟩
    obtain ⟨g, rfl⟩ : ∃ f', g = f' + 1 := ⟨g - 1, by omega⟩
    obtain rfl : k = n := by omega
    refine ⟨s, I1, Iz1, ?_, ?_, hx, hK⟩
    · rw [x_leans_48, hx.crt hcx (by omega), h.c0, if_pos (nI_le (Nat.le_refl _) (by omega))]
    · rw [r_leans_40, show Int32.toNatClampNeg 1 = 1 from rfl, hK.2.1, h.z1, if_pos (nI_le (Nat.le_refl _) (by omega))]
  | succ j ih =>
    intro k f g s I1 Iz1 hk hf hg hx hK hNg
    obtain ⟨f, rfl⟩ : ∃ f', f = f' + 1 := ⟨f - 1, by omega⟩
    obtain ⟨g, rfl⟩ : ∃ f', g = f' + 1 := ⟨g - 1, by omega⟩
    rw [x_leans_48, hx.crt hcx (by omega), h.c0, if_neg (nI_ge (by omega) (by omega)), r_leans_40, show Int32.toNatClampNeg 1 = 1 from rfl, hK.2.1, h.z1, if_neg (nI_ge (by omega) (by omega))]
    by_cases ek : k = p
    · have ek' : nI k = nI p := by rw [ek]
      rw [if_pos ek', if_pos ek', nI_1]
      exact ih (k + 1) f g s I1 Iz1 (by omega) (by omega) (by omega) hx hK hNg
    have ek' : ¬ nI k = nI p := fun cc => ek ((nI_eq (by omega) (by omega)).mp cc)
    rw [if_neg ek', if_neg ek', s_isUp_is (u := u) (by rw [hx.sta hcx (by omega)]; exact h.rs.2.1.trans h.wf.2.2.1) h.wf.u64 (by omega), r_isUp_is (u := u) (by rw [hK.2.1]; exact h.wf.2.2.1) h.wf.u64 (by omega), Option.bind_some]
    try dsimp only
    cases hb : ub u k with
    | false =>
      rw [if_pos (show b2 false = 0 from rfl), if_pos (show b2 false = 0 from rfl), nI_1]
      exact ih (k + 1) f g s I1 Iz1 (by omega) (by omega) (by omega) hx hK hNg
    | true =>
      rw [if_neg (show ¬ b2 true = 0 by decide), if_neg (show ¬ b2 true = 0 by decide)]
      obtain ⟨e, I2, c1, he, S, hN2, xq, x8⟩ := trial_is (I0 := I) h (Iz1 := Iz1) hx.1 hx.2 hNg hK.2.1
      obtain ⟨I3, Iz3, q1, q2, S3, fx3, fr3⟩ := sm_seat S (show k < n by omega)
      obtain ⟨r, I4, Iz4, m1, m2, hr, fx4, fr4⟩ := mins_is hcx (by omega) hp (by omega) S3.np (hN2.go hcx (by omega) fx3 fr3)
      obtain ⟨Iz5, k2, K2⟩ := kz_back hK (fr3.tr fr4)
      have hm := hN2.2.1
      rw [c1, q2, Option.bind_some, Option.bind_some]
      try dsimp only
      rw [q1, m2, Option.bind_some, Option.bind_some]
      try dsimp only
      rw [m1, k2, Option.bind_some, Option.bind_some, Option.bind_some]
      try dsimp only
      have hx4 : Tx I I4 x c := gone_x hcx xq x8 (fx3.tr fx4)
      have hN5 : Ngt I4 x Iz5 Jz z t m tn tl := ((hN2.go hcx (by omega) fx3 fr3).go hcx (by omega) fx4 fr4).fx rfl rfl (by rw [K2.n19, ← hK.n19, ← (fr3.tr fr4).1 _ (by omega) (by omega) (by omega) (by omega) (by omega)])
      rw [nI_1]
      by_cases cu : nI us ≤ nI r
      · rw [if_pos cu, if_pos cu, Int32.or_zero]
        exact ih (k + 1) f g s I4 Iz5 (by omega) (by omega) (by omega) hx4 K2 hN5
      · rw [if_neg cu, if_neg cu]
        exact ih (k + 1) f g _ I4 Iz5 (by omega) (by omega) (by omega) hx4 K2 hN5
theorem leans_call (h : InvS T I J P x nn c Iz Jz z N n u tn LT LP d na v) (hN : N < 600) (a b : Int32) : ∃ r I2 Iz2, x_leans 2000 T I J P x c a b = some (r, I2) ∧ r_leans 2000 Iz Jz z a b = some (r, Iz2) ∧ Unq I I2 x c Iz Iz2 z := by
  have hcx := (h.1 c (Or.inl rfl)).1.1
  have hn := h.n6
  obtain ⟨w, I1, e1, e2, r1, r2, r3⟩ := readUp_is h a b
  unfold x_leans r_leans
  try dsimp only
  rw [e1, e2, Option.bind_some, Option.bind_some]
  try dsimp only
  by_cases hw : w = 0
  · obtain ⟨t, p, m, tl, rfl, rfl, hp, hu, hNg⟩ := r3 hw
    subst hw
    rw [if_pos rfl, if_pos rfl]
    obtain ⟨Iz1, k1, K1⟩ := kz_start (Iz := Iz) (z := z)
    obtain ⟨e, I2, c1, he, S, hN2, xq, x8⟩ := trial_is (I0 := I) h (Iz1 := Iz1) (rdn_x (c := c) r1) r2 (hNg.fx rfl rfl (by rw [K1.n19, thr_row (by decide)])) K1.2.1
    have hm := hN2.2.1
    obtain ⟨r, I3, Iz3, m1, m2, hr, fx, fr⟩ := mins_is hcx (by omega) hp (by omega) S.np hN2
    obtain ⟨Iz4, k2, K2⟩ := kz_back K1 fr
    have hN4 : Ngt I3 x Iz4 Jz z t m tn tl := (hN2.go hcx (by omega) fx fr).fx rfl rfl (by rw [K2.n19, ← K1.n19, ← fr.1 _ (by omega) (by omega) (by omega) (by omega) (by omega)])
    obtain ⟨s', I5, Iz5, g1, g2, g3, g4⟩ := lean_go h hN (g1 := nI t) (g3 := 0) (g3' := 0) (us := r) rfl hp (by omega) n 0 2000 2000 0 I3 Iz4 (by omega) (by omega) (by omega) (gone_x hcx xq x8 fx) K2 hN4
    have g1 : x_leans_48 2000 T P x c (nI t) (nI p) 0 (nI r) 2000 0 0 I3 = _ := g1
    have g2 : r_leans_40 2000 Jz z (nI t) (nI p) 0 (nI r) 2000 0 0 Iz4 = _ := g2
    rw [c1, k1, Option.bind_some, Option.bind_some]
    try dsimp only
    rw [m1, m2, Option.bind_some, Option.bind_some]
    try dsimp only
    rw [g1, k2, Option.bind_some, Option.bind_some]
    try dsimp only
    rw [g2, Option.bind_some]
    exact ⟨_, _, _, rfl, rfl, (unq_x hcx g3.1 g3.2).1, g4.keep, (unq_x hcx g3.1 g3.2).2⟩
  · rw [if_neg hw, if_neg hw]
    exact ⟨_, _, _, rfl, rfl, unq_r r1 r2⟩
end
