/-! worth, the best minute to sit -/
section
variable {T : Nat → Option (Nat × Nat)} {I : Nat → Nat → Int32} {J : Nat → Nat → Int64} {P : Nat → Nat → Option Nat} {x nn c : Nat} {Iz : Nat → Nat → Int32} {Jz : Nat → Nat → Int64} {z N n u tn : Nat} {LT LP : Row → Int32} {d na v e : Nat}
/-- one minute more of the night, or its end, on the class's side -/
theorem wos_pl {t m : Nat} {tl : Nat → Nat} {g1 g2 gg : Int32} (hc : c = x + 4 ∨ x + 224 ≤ c) : ∀ (j i f g e u : Nat) (I Iz : Nat → Nat → Int32), i + j = m → j + 1 < f → j < g → e + j < 1000000 → (∀ k, i ≤ k → k ≤ m → nI k ≠ g2) → Sm T I P (x + 101) c Iz z n u tn LT LP e true → Ngt I x Iz Jz z t m tn tl →
    ∃ I1 Iz1, x_worthOfSitting_13 2000 T P x c g1 g2 f (nI i) I = some (nI (m + 1), I1) ∧ r_goes_3 2000 Jz z (nI t) gg (nI m) g (nI i) Iz = some (nI m, Iz1) ∧ Gone T I I1 P (x + 101) c Iz Iz1 z n tn LT LP e j true := by
  intro j
  induction j with
  | zero =>
    intro i f g e u I Iz hk hf hg he hb hS hN
    obtain ⟨f, rfl⟩ : ∃ f', f = f' + 1 + 1 := ⟨f - 2, by omega⟩
    obtain ⟨g, rfl⟩ : ∃ f', g = f' + 1 := ⟨g - 1, by omega⟩
    obtain rfl : i = m := by omega
    have hm := hN.2.1
    refine ⟨I, Iz, ?_, ?_, Gone.rf0 hS⟩
    · rw [x_worthOfSitting_13, hN.2.2.1, if_neg (nI_nlt (Nat.le_refl _) (by omega)), if_neg (hb i (Nat.le_refl _) (Nat.le_refl _)), if_pos (nI_le (Nat.le_refl _) (by omega)), nI_1, x_worthOfSitting_13, hN.2.2.1, if_pos (nI_lt (by omega) (by omega))]
    · rw [r_goes_3, if_pos (nI_le (Nat.le_refl _) (by omega))]
  | succ j ih =>
    intro i f g e u I Iz hk hf hg he hb hS hN
    obtain ⟨f, rfl⟩ : ∃ f', f = f' + 1 := ⟨f - 1, by omega⟩
    obtain ⟨g, rfl⟩ : ∃ f', g = f' + 1 := ⟨g - 1, by omega⟩
    obtain ⟨n1, n2, n3, n4, n5⟩ := id hN
    obtain ⟨m1, m2, m3⟩ := n5 i (by omega)
    obtain ⟨I1, Iz1, cnt, e1, e2, -, S1, fx, fr⟩ := cp_pl (w := true) (t := tl i) hS (by omega) (fun _ => rfl)
    have e1 : s_playMinute 2000 T I P (x + 101) c (nI (tl i)) 1 = some I1 := e1
    rw [x_worthOfSitting_13, n3, if_neg (nI_nlt (by omega) (by omega)), if_neg (hb i (Nat.le_refl _) (by omega)), if_neg (nI_ge (by omega) (by omega)), chk_nI (by omega) (by decide), nI_cl (by omega), m1, e1, Option.bind_some, nI_1]
    rw [r_goes_3, if_neg (nI_ge (by omega) (by omega)), show (40 : Int32) * nI t = nI (40 * t) from pk_mul 40 t, nI_add, chk_nI (by omega) (by decide), nI_cl (by omega), m2, lN_i, e2, Option.bind_some, nI_1]
    obtain ⟨I2, Iz2, g1', g2', ⟨⟨u2, S2⟩, fx2, fr2⟩⟩ := ih (i + 1) f g (e + 1) _ I1 Iz1 (by omega) (by omega) (by omega) (by omega) (fun k a b => hb k (by omega) b) S1 (hN.go hc (by omega) fx fr)
    refine ⟨I2, Iz2, g1', g2', ⟨⟨u2, ?_⟩, fx.tr fx2, fr.tr fr2⟩⟩
    rw [show e + (j + 1) = e + 1 + j by omega]
    exact S2
theorem wos_to {t m k : Nat} {tl : Nat → Nat} {g1 gg : Int32} (hc : c = x + 4 ∨ x + 224 ≤ c) (hkm : k ≤ m) : ∀ (j i f g e u : Nat) (I Iz : Nat → Nat → Int32), i + j = k → j < g → e + j < 1000000 → Sm T I P (x + 101) c Iz z n u tn LT LP e true → Ngt I x Iz Jz z t m tn tl →
    ∃ I1 Iz1, x_worthOfSitting_13 2000 T P x c g1 (nI k) (f + j) (nI i) I = x_worthOfSitting_13 2000 T P x c g1 (nI k) f (nI k) I1 ∧ r_goes_3 2000 Jz z (nI t) gg (nI k) g (nI i) Iz = some (nI k, Iz1) ∧ Gone T I I1 P (x + 101) c Iz Iz1 z n tn LT LP e j true := by
  intro j
  induction j with
  | zero =>
    intro i f g e u I Iz hk hg he hS hN
    obtain ⟨g, rfl⟩ : ∃ f', g = f' + 1 := ⟨g - 1, by omega⟩
    obtain rfl : i = k := by omega
    have hm := hN.2.1
    exact ⟨I, Iz, rfl, by rw [r_goes_3, if_pos (nI_le (Nat.le_refl _) (by omega))], Gone.rf0 hS⟩
  | succ j ih =>
    intro i f g e u I Iz hk hg he hS hN
    obtain ⟨g, rfl⟩ : ∃ f', g = f' + 1 := ⟨g - 1, by omega⟩
    obtain ⟨n1, n2, n3, n4, n5⟩ := id hN
    obtain ⟨m1, m2, m3⟩ := n5 i (by omega)
    obtain ⟨I1, Iz1, cnt, e1, e2, -, S1, fx, fr⟩ := cp_pl (w := true) (t := tl i) hS (by omega) (fun _ => rfl)
    have e1 : s_playMinute 2000 T I P (x + 101) c (nI (tl i)) 1 = some I1 := e1
    rw [show f + (j + 1) = (f + j) + 1 by omega, x_worthOfSitting_13, n3, if_neg (nI_nlt (by omega) (by omega)), if_neg (fun cc => by have := (nI_eq (by omega) (by omega)).mp cc; omega), if_neg (nI_ge (by omega) (by omega)), chk_nI (by omega) (by decide), nI_cl (by omega), m1, e1, Option.bind_some, nI_1]
    rw [r_goes_3, if_neg (nI_ge (by omega) (by omega)), show (40 : Int32) * nI t = nI (40 * t) from pk_mul 40 t, nI_add, chk_nI (by omega) (by decide), nI_cl (by omega), m2, lN_i, e2, Option.bind_some, nI_1]
    obtain ⟨I2, Iz2, g1', g2', ⟨⟨u2, S2⟩, fx2, fr2⟩⟩ := ih (i + 1) f g (e + 1) _ I1 Iz1 (by omega) (by omega) (by omega) S1 (hN.go hc (by omega) fx fr)
    refine ⟨I2, Iz2, g1', g2', ⟨⟨u2, ?_⟩, fx.tr fx2, fr.tr fr2⟩⟩
    rw [show e + (j + 1) = e + 1 + j by omega]
    exact S2
/-- the minute behind which one sits down, and the rest of the night -/
theorem wos_at {t m k p : Nat} {tl : Nat → Nat} (hc : c = x + 4 ∨ x + 224 ≤ c) (hkm : k ≤ m) (hp : p < n) {f : Nat} (hf : 100 < f) (he : e < 900000) (hS : Sm T I P (x + 101) c Iz z n u tn LT LP e true) (hN : Ngt I x Iz Jz z t m tn tl) :
    ∃ I1 IzB Iz1, x_worthOfSitting_13 2000 T P x c (nI p) (nI k) f (nI k) I = some (nI (m + 1), I1) ∧ ((ub u p = false ∧ IzB = Iz) ∨ (ub u p = true ∧ r_sitsOwn Iz z (nI p) = some IzB)) ∧ IzB (z + 19) t = nI m ∧ r_goes 2000 IzB Jz z (nI t) (nI k) (nI m) = some Iz1 ∧ (∃ u1 e1, e1 ≤ e + 31 ∧ Sm T I1 P (x + 101) c Iz1 z n u1 tn LT LP e1 true) ∧ Fx I I1 (x + 101) c ∧ Fr Iz Iz1 z := by
  obtain ⟨f, rfl⟩ : ∃ f', f = f' + 1 := ⟨f - 1, by omega⟩
  have hm := hN.2.1
  have hn := hS.1.1
  -- the plain step from a State I' on
  have step : ∀ (I' IzB : Nat → Nat → Int32) (u' e' : Nat), e' ≤ e + 1 → Sm T I' P (x + 101) c IzB z n u' tn LT LP e' true → Ngt I' x IzB Jz z t m tn tl → ∃ I1 Iz1, (if I' (x + 108) 1 ≤ nI k then x_worthOfSitting_13 2000 T P x c (nI p) (nI k) f (nI k + 1) I' else chk (nI k) 30 ((s_playMinute 2000 T I' P (x + 101) c (I' (x + 109) (nI k).toNatClampNeg) 1).bind (fun q14 => x_worthOfSitting_13 2000 T P x c (nI p) (nI k) f (nI k + 1) q14))) = some (nI (m + 1), I1) ∧ r_goes 2000 IzB Jz z (nI t) (nI k) (nI m) = some Iz1 ∧ (∃ u1 e1, e1 ≤ e + 31 ∧ Sm T I1 P (x + 101) c Iz1 z n u1 tn LT LP e1 true) ∧ Fx I' I1 (x + 101) c ∧ Fr IzB Iz1 z := by
    intro I' IzB u' e' he' hS' hN'
    obtain ⟨n1, n2, n3, n4, n5⟩ := id hN'
    unfold r_goes
    rw [n3, nI_1]
    by_cases hk : k = m
    · subst hk
      rw [if_pos (nI_le (Nat.le_refl _) (by omega))]
      obtain ⟨f, rfl⟩ : ∃ f', f = f' + 1 := ⟨f - 1, by omega⟩
      refine ⟨I', IzB, ?_, ?_, ⟨u', e', by omega, hS'⟩, Fx.rf, Fr.rf⟩
      · rw [x_worthOfSitting_13, n3, if_pos (nI_lt (by omega) (by omega))]
      · rw [r_goes_3, if_pos (nI_le (Nat.le_refl _) (by omega))]
        rfl
    · obtain ⟨m1, m2, m3⟩ := n5 k (by omega)
      obtain ⟨I1, Iz1, cnt, e1, e2, -, S1, fx, fr⟩ := cp_pl (w := true) (t := tl k) hS' (by omega) (fun _ => rfl)
      have e1 : s_playMinute 2000 T I' P (x + 101) c (nI (tl k)) 1 = some I1 := e1
      rw [if_neg (nI_ge (by omega) (by omega)), chk_nI (by omega) (by decide), nI_cl (by omega), m1, e1, Option.bind_some]
      obtain ⟨I2, Iz2, g1', g2', ⟨⟨u2, S2⟩, fx2, fr2⟩⟩ := wos_pl (g1 := nI p) (g2 := nI k) (gg := nI k) hc (m - (k + 1)) (k + 1) f 1999 (e' + 1) _ I1 Iz1 (by omega) (by omega) (by omega) (by omega) (fun i a b cc => by have := (nI_eq (by omega) (by omega)).mp cc; omega) S1 (hN'.go hc (by omega) fx fr)
      refine ⟨I2, Iz2, g1', ?_, ⟨u2, e' + 1 + (m - (k + 1)), by omega, S2⟩, fx.tr fx2, fr.tr fr2⟩
      rw [r_goes_3, if_neg (nI_ge (by omega) (by omega)), show (40 : Int32) * nI t = nI (40 * t) from pk_mul 40 t, nI_add, chk_nI (by omega) (by decide), nI_cl (by omega), m2, lN_i, e2, Option.bind_some, nI_1, g2']
      rfl
  rw [x_worthOfSitting_13, hN.2.2.1, if_neg (nI_nlt hkm (by omega)), if_pos rfl, s_isUp_is (hS.2.2.2.2.1.2.1.trans hS.1.2.2.1) hS.1.u64 (by omega)]
  cases hb : ub u p with
  | false =>
    rw [if_pos (show b2 false = 0 from rfl)]
    obtain ⟨I1, Iz1, s1, s2, s3, s4, s5⟩ := step I Iz u e (by omega) hS hN
    rw [hN.2.2.1] at s1
    exact ⟨I1, Iz, Iz1, s1, Or.inl ⟨rfl, rfl⟩, hN.2.2.2.1, s2, s3, s4, s5⟩
  | true =>
    rw [if_neg (show ¬ b2 true = 0 by decide)]
    obtain ⟨I', q1, R1, q2⟩ := s_seat_is hS.1 hS.2.2.2.2.1 hp
    obtain ⟨IzB, f1, f2, f3⟩ := r_sitsOwn_is hS.1 hp
    have ev := Ev.seat (u := u) hn hp hS.2.2.2.2.2.2.2.1 hS.2.2.2.2.2.2.2.2
    obtain ⟨⟨u1, e1, he1, S1⟩, fx, fr⟩ := hS.next (I1 := I') (Iz1 := IzB) (u1 := clr u p) (e1 := e + 1) (Nat.le_refl _) (by rw [f2]; exact hS.1.seat hp) (by rw [f2]; exact R1) (by rw [f2]; exact ev) (fun q a1 a2 a3 a4 => q2 q a1) ⟨fun q a1 a2 a3 a4 a5 => f3 q a1, fun k hk => by rw [f2, mseat_out2 (by omega) hk]⟩
    rw [q1, Option.bind_some]
    have hN' := hN.go hc (by omega) fx fr
    obtain ⟨I1, Iz1, s1, s2, s3, s4, s5⟩ := step I' IzB u1 e1 he1 S1 hN'
    exact ⟨I1, IzB, Iz1, s1, Or.inr ⟨rfl, f1⟩, hN'.2.2.2.1, s2, s3, fx.tr s4, fr.tr s5⟩
/-- what it is worth, on both sides -/
theorem worth_v {p : Nat} (hS : Sm T I P (x + 101) c Iz z n u tn LT LP e true) (hp : p < n) (he : e < 1000000) : ∃ pl val, s_placeOf 2000 I (x + 101) (nI p) = some (nI pl) ∧ pl < 6 ∧ I (c + 4) pl - I (x + 101 + 2) p = val ∧ r_worthNow 2000 Iz z (nI p) = some val ∧ -268435456 < val := by
  have hn := hS.1.1
  obtain ⟨h1, h2, h3, h4, h5, h6, h7, h8⟩ := id hS
  have hlt : mPc (Iz (z + 1)) u p n < n := by
    have hb : ∀ k, mPc (Iz (z + 1)) u p k ≤ k ∧ (p < k → mPc (Iz (z + 1)) u p k < k) := by
      intro k
      induction k with
      | zero => exact ⟨Nat.le_refl _, fun cc => by omega⟩
      | succ k ih =>
        unfold mPc
        constructor
        · split <;> omega
        · intro hk
          by_cases ek : k = p
          · rw [if_neg (fun cc => cc.1 ek)]
            omega
          · have := ih.2 (by omega)
            split <;> omega
    exact (hb n).2 hp
  have w1 := h4.1.2.2.2.2.2.2 _ (show mPc (Iz (z + 1)) u p n < 6 by omega)
  obtain ⟨s, a1, a2, a3, a4⟩ := h8.2 p hp
  refine ⟨mPc (Iz (z + 1)) u p n, _, s_placeOf_is h1 h5 hp, by omega, rfl, ?_, ?_⟩
  · unfold r_worthNow r_worthOf
    rw [r_placeOf_is h1 hp, Option.bind_some]
    try dsimp only
    rw [if_neg (show ¬ (6 : Int32) ≤ nI (mPc (Iz (z + 1)) u p n) from nI_ge (b := 6) (by omega) (by decide)), show (26 : Int32) + nI (mPc (Iz (z + 1)) u p n) = nI (26 + mPc (Iz (z + 1)) u p n) from nI_add 26 _, chk_nI (by omega) (by decide), Option.bind_some, nI_cl (by omega), show (47 : Int32) + nI p = nI (47 + p) from nI_add 47 p, chk_nI (by omega) (by decide), nI_cl (by omega), w1.1, (h5.2.2.2.2 p hp).2.1 rfl]
  · rw [w1.1, (h5.2.2.2.2 p hp).2.1 rfl, i32_lt]
    have hb : (Iz (z + 1) (26 + mPc (Iz (z + 1)) u p n) - Iz (z + 1) (47 + p)).toInt = (Iz (z + 1) (26 + mPc (Iz (z + 1)) u p n)).toInt - (Iz (z + 1) (47 + p)).toInt := by
      rw [Int32.toInt_sub]
      exact Int.bmod_eq_of_le (by omega) (by omega)
    rw [hb]
    have k1 : (-268435456 : Int32).toInt = -268435456 := rfl
    omega
end
