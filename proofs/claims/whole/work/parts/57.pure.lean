section
variable {T : Nat → Option (Nat × Nat)} {I : Nat → Nat → Int32} {J : Nat → Nat → Int64} {P : Nat → Nat → Option Nat} {x nn a c : Nat} {Iz : Nat → Nat → Int32} {Jz : Nat → Nat → Int64} {z N n u tn : Nat} {LT LP : Row → Int32} {d na v e : Nat}
/-- minutes of a night from one on to another one, on the reference's side, beside minutes of the class (w: with pains) -/
def Gone (T : Nat → Option (Nat × Nat)) (I I1 : Nat → Nat → Int32) (P : Nat → Nat → Option Nat) (a c : Nat) (Iz Iz1 : Nat → Nat → Int32) (z n tn : Nat) (LT LP : Row → Int32) (e k : Nat) (w : Bool) : Prop := (∃ u1, Sm T I1 P a c Iz1 z n u1 tn LT LP (e + k) w) ∧ Fx I I1 a c ∧ Fr Iz Iz1 z
theorem Gone.rf0 {w : Bool} (h : Sm T I P a c Iz z n u tn LT LP e w) : Gone T I I P a c Iz Iz z n tn LT LP e 0 w := ⟨⟨u, h⟩, Fx.rf, Fr.rf⟩
theorem Sm.np {w : Bool} (h : Sm T I P a c Iz z n u tn LT LP e w) : Sm T I P a c Iz z n u tn LT LP e false := by
  obtain ⟨h1, h2, h3, h4, h5, h6⟩ := h
  exact ⟨h1, h2, h3, h4, h5.nop, h6⟩
theorem thr_go {t m : Nat} {tl : Nat → Nat} {g2 : Int32} (hc : c = x + 4 ∨ x + 224 ≤ c) (ha : a + 6 < x + 108 ∨ x + 109 < a) : ∀ (j k f g e u : Nat) (I Iz : Nat → Nat → Int32), k + j = m → j < f → j < g → e + j < 1000000 → Sm T I P a c Iz z n u tn LT LP e false → Ngt I x Iz Jz z t m tn tl →
    ∃ I1 Iz1, ni_playThrough_2 2000 T P x c a f (nI k) I = some (nI m, I1) ∧ r_goes_3 2000 Jz z (nI t) g2 (nI m) g (nI k) Iz = some (nI m, Iz1) ∧ Gone T I I1 P a c Iz Iz1 z n tn LT LP e j false := by
  intro j
  induction j with
  | zero =>
    intro k f g e u I Iz hk hf hg he hS hN
    obtain ⟨f, rfl⟩ : ∃ f', f = f' + 1 := ⟨f - 1, by omega⟩
    obtain ⟨g, rfl⟩ : ∃ f', g = f' + 1 := ⟨g - 1, by omega⟩
    obtain rfl : k = m := by omega
    refine ⟨I, Iz, ?_, ?_, Gone.rf0 hS⟩
    · rw [ni_playThrough_2, hN.2.2.1, if_pos (nI_le (Nat.le_refl _) (by have := hN.2.1; omega))]
    · rw [r_goes_3, if_pos (nI_le (Nat.le_refl _) (by have := hN.2.1; omega))]
  | succ j ih =>
    intro k f g e u I Iz hk hf hg he hS hN
    obtain ⟨f, rfl⟩ : ∃ f', f = f' + 1 := ⟨f - 1, by omega⟩
    obtain ⟨g, rfl⟩ : ∃ f', g = f' + 1 := ⟨g - 1, by omega⟩
    obtain ⟨n1, n2, n3, n4, n5⟩ := id hN
    obtain ⟨m1, m2, m3⟩ := n5 k (by omega)
    obtain ⟨I1, Iz1, cnt, e1, e2, -, S1, fx, fr⟩ := cp_pl (w := false) (t := tl k) hS (by omega) (fun cc => by cases cc)
    have e1 : s_playMinute 2000 T I P a c (nI (tl k)) 0 = some I1 := e1
    rw [ni_playThrough_2, n3, if_neg (nI_ge (by omega) (by omega)), chk_nI (by omega) (by decide), nI_cl (by omega), m1, e1, Option.bind_some, nI_1]
    rw [r_goes_3, if_neg (nI_ge (by omega) (by omega)), show (40 : Int32) * nI t = nI (40 * t) from pk_mul 40 t, nI_add, chk_nI (by omega) (by decide), nI_cl (by omega), m2, lN_i, e2, Option.bind_some, nI_1]
    obtain ⟨I2, Iz2, g1, g2', ⟨⟨u2, S2⟩, fx2, fr2⟩⟩ := ih (k + 1) f g (e + 1) _ I1 Iz1 (by omega) (by omega) (by omega) (by omega) S1 (hN.go hc ha fx fr)
    refine ⟨I2, Iz2, g1, g2', ⟨⟨u2, ?_⟩, fx.tr fx2, fr.tr fr2⟩⟩
    rw [show e + (j + 1) = e + 1 + j by omega]
    exact S2
theorem thr_is {t m : Nat} {tl : Nat → Nat} (hc : c = x + 4 ∨ x + 224 ≤ c) (ha : a + 6 < x + 108 ∨ x + 109 < a) (he : e < 900000) (hS : Sm T I P a c Iz z n u tn LT LP e false) (hN : Ngt I x Iz Jz z t m tn tl) : ∃ I1 Iz1, ni_playThrough 2000 T I P x c a = some I1 ∧ r_goes 2000 Iz Jz z (nI t) 0 (nI m) = some Iz1 ∧ Gone T I I1 P a c Iz Iz1 z n tn LT LP e m false := by
  have hm := hN.2.1
  obtain ⟨I1, Iz1, e1, e2, e3⟩ := thr_go (g2 := 0) hc ha m 0 2000 2000 e u I Iz (by omega) (by omega) (by omega) (by omega) hS hN
  have e1 : ni_playThrough_2 2000 T P x c a 2000 0 I = _ := e1
  have e2 : r_goes_3 2000 Jz z (nI t) 0 (nI m) 2000 0 Iz = _ := e2
  unfold ni_playThrough r_goes
  rw [e1, e2]
  exact ⟨I1, Iz1, rfl, rfl, e3⟩
/-- who sits goes on sitting: no minute more is counted -/
theorem rest_go {t m p : Nat} {tl : Nat → Nat} {r : Nat} (hp : p < n) : ∀ (j k g e u : Nat) (I Iz : Nat → Nat → Int32), k + j = m → j < g → e + j < 1000000 → Sm T I P a c Iz z n u tn LT LP e false → Iz (z + 19) t = nI m → t < 4 → m ≤ 30 → (∀ i, i < m → Jz (z + 20) (40 * t + i) = lN (tl i) ∧ tl i < tn) → ub u p = false →
    ∃ Iz1, r_standsIn_5 2000 Jz z (nI t) (nI p) g (nI r) (nI k) Iz = some (nI r, nI m, Iz1) ∧ Fr Iz Iz1 z := by
  intro j
  induction j with
  | zero =>
    intro k g e u I Iz hk hg he hS h19 ht hm hJ hu
    obtain ⟨g, rfl⟩ : ∃ f', g = f' + 1 := ⟨g - 1, by omega⟩
    obtain rfl : k = m := by omega
    refine ⟨Iz, ?_, Fr.rf⟩
    rw [r_standsIn_5, chk_nI ht (by decide), nI_cl (by omega), h19, if_pos (nI_le (Nat.le_refl _) (by omega))]
  | succ j ih =>
    intro k g e u I Iz hk hg he hS h19 ht hm hJ hu
    obtain ⟨g, rfl⟩ : ∃ f', g = f' + 1 := ⟨g - 1, by omega⟩
    obtain ⟨m2, m3⟩ := hJ k (by omega)
    have hn := hS.1.1
    obtain ⟨I1, Iz1, cnt, e1, e2, -, S1, fx, fr⟩ := cp_pl (w := false) (t := tl k) hS (by omega) (fun cc => by cases cc)
    have hu1 : ub (mplay LT LP (Iz (z + 1)) n u (tl k)).1 p = false := by
      cases hb : ub (mplay LT LP (Iz (z + 1)) n u (tl k)).1 p with
      | false => rfl
      | true => rw [← hu]; exact (mplay_up hn hS.1.u64 (by omega) hb).symm
    rw [r_standsIn_5, chk_nI ht (by decide), nI_cl (by omega), h19, if_neg (nI_ge (by omega) (by omega)), show (40 : Int32) * nI t = nI (40 * t) from pk_mul 40 t, nI_add, chk_nI (by omega) (by decide), nI_cl (by omega), m2, lN_i, e2, Option.bind_some]
    try dsimp only
    rw [r_isUp_is S1.1.2.2.1 S1.1.u64 (by omega), hu1, Option.bind_some]
    try dsimp only
    rw [if_pos (show b2 false = 0 from rfl), Int32.add_zero, nI_1]
    obtain ⟨Iz2, g1, g2⟩ := ih (k + 1) g (e + 1) _ I1 Iz1 (by omega) (by omega) (by omega) S1 (by rw [fr.1 _ (by omega) (by omega) (by omega) (by omega) (by omega)]; exact h19) ht hm hJ hu1
    exact ⟨Iz2, g1, fr.tr g2⟩
theorem mins_go {t m p : Nat} {tl : Nat → Nat} (hc : c = x + 4 ∨ x + 224 ≤ c) (ha : a + 6 < x + 108 ∨ x + 109 < a) (hp : p < n) : ∀ (j k f g e u : Nat) (I Iz : Nat → Nat → Int32), k + j = m → j < f → j < g → e + j < 1000000 → Sm T I P a c Iz z n u tn LT LP e false → Ngt I x Iz Jz z t m tn tl →
    ∃ r I1 Iz1, ni_minutesUp_3 2000 T P x c a (nI p) f (nI k) I = some (if r = m then .inr (nI m, I1) else .inl (nI r, I1)) ∧ r_standsIn_5 2000 Jz z (nI t) (nI p) g (nI k) (nI k) Iz = some (nI r, nI m, Iz1) ∧ r ≤ m ∧ Fx I I1 a c ∧ Fr Iz Iz1 z := by
  intro j
  induction j with
  | zero =>
    intro k f g e u I Iz hk hf hg he hS hN
    obtain ⟨f, rfl⟩ : ∃ f', f = f' + 1 := ⟨f - 1, by omega⟩
    obtain ⟨g, rfl⟩ : ∃ f', g = f' + 1 := ⟨g - 1, by omega⟩
    obtain rfl : k = m := by omega
    obtain ⟨n1, n2, n3, n4, n5⟩ := id hN
    refine ⟨k, I, Iz, ?_, ?_, Nat.le_refl _, Fx.rf, Fr.rf⟩
    · rw [ni_minutesUp_3, n3, if_pos (nI_le (Nat.le_refl _) (by omega)), if_pos rfl]
    · rw [r_standsIn_5, chk_nI n1 (by decide), nI_cl (by omega), n4, if_pos (nI_le (Nat.le_refl _) (by omega))]
  | succ j ih =>
    intro k f g e u I Iz hk hf hg he hS hN
    obtain ⟨f, rfl⟩ : ∃ f', f = f' + 1 := ⟨f - 1, by omega⟩
    obtain ⟨g, rfl⟩ : ∃ f', g = f' + 1 := ⟨g - 1, by omega⟩
    obtain ⟨n1, n2, n3, n4, n5⟩ := id hN
    obtain ⟨m1, m2, m3⟩ := n5 k (by omega)
    have hn := hS.1.1
    obtain ⟨I1, Iz1, cnt, e1, e2, -, S1, fx, fr⟩ := cp_pl (w := false) (t := tl k) hS (by omega) (fun cc => by cases cc)
    have e1 : s_playMinute 2000 T I P a c (nI (tl k)) 0 = some I1 := e1
    rw [ni_minutesUp_3, n3, if_neg (nI_ge (by omega) (by omega)), chk_nI (by omega) (by decide), nI_cl (by omega), m1, e1, Option.bind_some]
    rw [r_standsIn_5, chk_nI n1 (by decide), nI_cl (by omega), n4, if_neg (nI_ge (by omega) (by omega)), show (40 : Int32) * nI t = nI (40 * t) from pk_mul 40 t, nI_add, chk_nI (by omega) (by decide), nI_cl (by omega), m2, lN_i, e2, Option.bind_some]
    try dsimp only
    have hN1 := hN.go hc ha fx fr
    generalize (mplay LT LP (Iz (z + 1)) n u (tl k)).1 = u1 at *
    rw [r_isUp_is S1.1.2.2.1 S1.1.u64 (by omega), s_isUp_is (S1.2.2.2.2.1.2.1.trans S1.1.2.2.1) S1.1.u64 (by omega), Option.bind_some]
    try dsimp only
    cases hb : ub u1 p with
    | false =>
      rw [if_pos (show b2 false = 0 from rfl), if_pos (show b2 false = 0 from rfl), Int32.add_zero, nI_1]
      obtain ⟨Iz2, g1, g2⟩ := rest_go (r := k) (t := t) (m := m) (tl := tl) hp j (k + 1) g (e + 1) u1 I1 Iz1 (by omega) (by omega) (by omega) S1 hN1.2.2.2.1 n1 n2 (fun i hi => (n5 i hi).2) hb
      exact ⟨k, I1, Iz2, by rw [if_neg (by omega)], g1, by omega, fx, fr.tr g2⟩
    | true =>
      rw [if_neg (show ¬ b2 true = 0 by decide), if_neg (show ¬ b2 true = 0 by decide), nI_1]
      obtain ⟨r, I2, Iz2, g1, g2, g3, g4, g5⟩ := ih (k + 1) f g (e + 1) u1 I1 Iz1 (by omega) (by omega) (by omega) (by omega) S1 hN1
      exact ⟨r, I2, Iz2, g1, g2, g3, fx.tr g4, fr.tr g5⟩
/-- how many minutes one stands, on both sides -/
theorem mins_is {t m p : Nat} {tl : Nat → Nat} (hc : c = x + 4 ∨ x + 224 ≤ c) (ha : a + 6 < x + 108 ∨ x + 109 < a) (hp : p < n) (he : e < 900000) (hS : Sm T I P a c Iz z n u tn LT LP e false) (hN : Ngt I x Iz Jz z t m tn tl) : ∃ r I1 Iz1, ni_minutesUp 2000 T I P x c a (nI p) = some (nI r, I1) ∧ r_standsIn 2000 Iz Jz z (nI t) (nI p) = some (nI r, Iz1) ∧ r ≤ m ∧ Fx I I1 a c ∧ Fr Iz Iz1 z := by
  have hm := hN.2.1
  obtain ⟨r, I1, Iz1, e1, e2, e3, e4, e5⟩ := mins_go hc ha hp m 0 2000 2000 e u I Iz (by omega) (by omega) (by omega) (by omega) hS hN
  have e1 : ni_minutesUp_3 2000 T P x c a (nI p) 2000 0 I = _ := e1
  have e2 : r_standsIn_5 2000 Jz z (nI t) (nI p) 2000 0 0 Iz = _ := e2
  unfold ni_minutesUp r_standsIn
  rw [e1, e2, Option.bind_some, Option.bind_some]
  refine ⟨r, I1, Iz1, ?_, rfl, e3, e4, e5⟩
  by_cases er : r = m
  · rw [if_pos er]
    show some (I1 (x + 108) 1, I1) = _
    rw [(hN.go hc ha e4 e5).2.2.1, er]
  · rw [if_neg er]
end
