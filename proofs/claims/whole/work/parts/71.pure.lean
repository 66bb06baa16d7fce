/-! waiting: one pair of tellings -/
def waP (I : Nat → Nat → Int32) (x : Nat) (g3 g5 l7 l9 : Int32) : Option (Int32 × (Nat → Nat → Int32)) := if (s_isUp I (x + 127) g3) = 0 then some (l7, I) else (if l9 = g5 then ((s_seat I (x + 127) g3).bind (fun J => some (l9, J))) else some (l9, I))
def rwP (I : Nat → Nat → Int32) (z : Nat) (g1 g4 l8 : Int32) : Option (Nat → Nat → Int32) := if l8 = g4 then ((r_isUp I z g1).bind (fun u => if u = 0 then some I else r_sitsOwn I z g1)) else some I
theorem wa_step (F : Nat) (T : Nat → Option (Nat × Nat)) (P : Nat → Nat → Option Nat) (x c : Nat) (g2 g3 g4 g5 g6 : Int32) (k : Nat) (l7 l8 l9 : Int32) (I : Nat → Nat → Int32) : wa_standAgainst_20 F T P x c g2 g3 g4 g5 g6 (k + 1) l7 l8 l9 I = if 20 < l9 then some (l7, l8, l9, I) else (waP I x g3 g5 l7 l9).bind (fun y => (waP y.2 x g4 g6 l8 l9).bind (fun w => if (w.2 (x + 127) 1) = 0 then some (y.1, w.1, l9, w.2) else (s_playMinute F T w.2 P (x + 127) c g2 1).bind (fun I3 => wa_standAgainst_20 F T P x c g2 g3 g4 g5 g6 k y.1 w.1 (l9 + 1) I3))) := by
  rw [wa_standAgainst_20]
  unfold waP
  by_cases h0 : 20 < l9
  · rw [if_pos h0, if_pos h0]
  rw [if_neg h0, if_neg h0]
  have snd : ∀ (l : Int32) (K : Nat → Nat → Int32), (if (s_isUp K (x + 127) g4) = 0 then (if (K (x + 127) 1) = 0 then (some (l, l8, l9, K)) else ((s_playMinute F T K P (x + 127) c g2 1).bind (fun q8 => let I10 := q8; wa_standAgainst_20 F T P x c g2 g3 g4 g5 g6 k l l8 (l9 + 1) I10))) else (if l9 = g6 then ((s_seat K (x + 127) g4).bind (fun q16 => let I18 := q16; if (I18 (x + 127) 1) = 0 then (some (l, l9, l9, I18)) else ((s_playMinute F T I18 P (x + 127) c g2 1).bind (fun q20 => let I22 := q20; wa_standAgainst_20 F T P x c g2 g3 g4 g5 g6 k l l9 (l9 + 1) I22)))) else (if (K (x + 127) 1) = 0 then (some (l, l9, l9, K)) else ((s_playMinute F T K P (x + 127) c g2 1).bind (fun q13 => let I15 := q13; wa_standAgainst_20 F T P x c g2 g3 g4 g5 g6 k l l9 (l9 + 1) I15))))) = ((if (s_isUp K (x + 127) g4) = 0 then some (l8, K) else (if l9 = g6 then ((s_seat K (x + 127) g4).bind (fun J => some (l9, J))) else some (l9, K))).bind (fun w => if (w.2 (x + 127) 1) = 0 then some (l, w.1, l9, w.2) else (s_playMinute F T w.2 P (x + 127) c g2 1).bind (fun I3 => wa_standAgainst_20 F T P x c g2 g3 g4 g5 g6 k l w.1 (l9 + 1) I3))) := fun l K => by
    by_cases h1 : s_isUp K (x + 127) g4 = 0
    · rw [if_pos h1, if_pos h1, Option.bind_some]
    rw [if_neg h1, if_neg h1]
    by_cases h2 : l9 = g6
    · rw [if_pos h2, if_pos h2]
      cases s_seat K (x + 127) g4 with
      | none => rfl
      | some K1 => rfl
    · rw [if_neg h2, if_neg h2, Option.bind_some]
  by_cases h1 : s_isUp I (x + 127) g3 = 0
  · rw [if_pos h1, if_pos h1, Option.bind_some]
    exact snd l7 I
  rw [if_neg h1, if_neg h1]
  by_cases h2 : l9 = g5
  · rw [if_pos h2, if_pos h2]
    cases s_seat I (x + 127) g3 with
    | none => rfl
    | some K1 => exact snd l9 K1
  · rw [if_neg h2, if_neg h2, Option.bind_some]
    exact snd l9 I
theorem rw_step (F z : Nat) (g1 g2 g3 g4 g5 : Int32) (k : Nat) (l6 l7 l8 : Int32) (I : Nat → Nat → Int32) : r_laysWait_43 F z g1 g2 g3 g4 g5 (k + 1) l6 l7 l8 I = (rwP I z g1 g4 l8).bind (fun J1 => (rwP J1 z g2 g5 l8).bind (fun J2 => if (J2 (z + 1) (Int32.toNatClampNeg 32)) = 0 then some (l6, l7, l8, J2) else (r_plays F J2 z g3).bind (fun y => (r_isUp y.2 z g1).bind (fun a => (r_isUp y.2 z g2).bind (fun b => r_laysWait_43 F z g1 g2 g3 g4 g5 k (if a = 0 then l6 + 0 else l6 + 1) (if b = 0 then l7 + 0 else l7 + 1) (l8 + 1) y.2))))) := by
  rw [r_laysWait_43]
  unfold rwP
  have trd : ∀ (K : Nat → Nat → Int32), (if (K (z + 1) (Int32.toNatClampNeg 32)) = 0 then (some (l6, l7, l8, K)) else ((r_plays F K z g3).bind (fun q111 => let u113 := q111.1; let I114 := q111.2; (r_isUp I114 z g1).bind (fun q115 => let u117 := q115; if u117 = 0 then (let x119 := (l6 + 0); (r_isUp I114 z g2).bind (fun q121 => let u123 := q121; if u123 = 0 then (let x125 := (l7 + 0); r_laysWait_43 F z g1 g2 g3 g4 g5 k x119 x125 (l8 + 1) I114) else (let x127 := (l7 + 1); r_laysWait_43 F z g1 g2 g3 g4 g5 k x119 x127 (l8 + 1) I114))) else (let x129 := (l6 + 1); (r_isUp I114 z g2).bind (fun q131 => let u133 := q131; if u133 = 0 then (let x135 := (l7 + 0); r_laysWait_43 F z g1 g2 g3 g4 g5 k x129 x135 (l8 + 1) I114) else (let x137 := (l7 + 1); r_laysWait_43 F z g1 g2 g3 g4 g5 k x129 x137 (l8 + 1) I114))))))) = (if (K (z + 1) (Int32.toNatClampNeg 32)) = 0 then some (l6, l7, l8, K) else (r_plays F K z g3).bind (fun y => (r_isUp y.2 z g1).bind (fun a => (r_isUp y.2 z g2).bind (fun b => r_laysWait_43 F z g1 g2 g3 g4 g5 k (if a = 0 then l6 + 0 else l6 + 1) (if b = 0 then l7 + 0 else l7 + 1) (l8 + 1) y.2)))) := fun K => by
    by_cases h1 : K (z + 1) (Int32.toNatClampNeg 32) = 0
    · rw [if_pos h1, if_pos h1]
    rw [if_neg h1, if_neg h1]
    cases r_plays F K z g3 with
    | none => rfl
    | some y =>
      rw [Option.bind_some, Option.bind_some]
      try dsimp only
      cases r_isUp y.2 z g1 with
      | none => rfl
      | some a =>
        rw [Option.bind_some, Option.bind_some]
        try dsimp only
        cases r_isUp y.2 z g2 with
        | none => by_cases ha : a = 0 <;> simp only [ha, if_true, if_false] <;> rfl
        | some b => by_cases ha : a = 0 <;> by_cases hb : b = 0 <;> simp only [ha, hb, if_true, if_false, Option.bind_some]
  by_cases h1 : l8 = g4
  · rw [if_pos h1, if_pos h1]
    cases r_isUp I z g1 with
    | none => rfl
    | some u1 =>
      rw [Option.bind_some, Option.bind_some]
      try dsimp only
      by_cases hu1 : u1 = 0
      · rw [if_pos hu1, if_pos hu1, Option.bind_some]
        by_cases h2 : l8 = g5
        · rw [if_pos h2, if_pos h2]
          cases r_isUp I z g2 with
          | none => rfl
          | some u =>
            rw [Option.bind_some, Option.bind_some]
            try dsimp only
            by_cases hu : u = 0
            · rw [if_pos hu, if_pos hu, Option.bind_some]
              exact trd I
            · rw [if_neg hu, if_neg hu]
              cases r_sitsOwn I z g2 with
              | none => rfl
              | some K1 => exact trd K1
        · rw [if_neg h2, if_neg h2, Option.bind_some]
          exact trd I
      · rw [if_neg hu1, if_neg hu1]
        cases r_sitsOwn I z g1 with
        | none => rfl
        | some K0 =>
          rw [Option.bind_some, Option.bind_some]
          try dsimp only
          by_cases h2 : l8 = g5
          · rw [if_pos h2, if_pos h2]
            cases r_isUp K0 z g2 with
            | none => rfl
            | some u =>
              rw [Option.bind_some, Option.bind_some]
              try dsimp only
              by_cases hu : u = 0
              · rw [if_pos hu, if_pos hu, Option.bind_some]
                exact trd K0
              · rw [if_neg hu, if_neg hu]
                cases r_sitsOwn K0 z g2 with
                | none => rfl
                | some K1 => exact trd K1
          · rw [if_neg h2, if_neg h2, Option.bind_some]
            exact trd K0
  · rw [if_neg h1, if_neg h1, Option.bind_some]
    by_cases h2 : l8 = g5
    · rw [if_pos h2, if_pos h2]
      cases r_isUp I z g2 with
      | none => rfl
      | some u =>
        rw [Option.bind_some, Option.bind_some]
        try dsimp only
        by_cases hu : u = 0
        · rw [if_pos hu, if_pos hu, Option.bind_some]
          exact trd I
        · rw [if_neg hu, if_neg hu]
          cases r_sitsOwn I z g2 with
          | none => rfl
          | some K1 => exact trd K1
    · rw [if_neg h2, if_neg h2, Option.bind_some]
      exact trd I
section
variable {T : Nat → Option (Nat × Nat)} {I : Nat → Nat → Int32} {J : Nat → Nat → Int64} {P : Nat → Nat → Option Nat} {x nn c : Nat} {Iz : Nat → Nat → Int32} {Jz : Nat → Nat → Int64} {z N n u tn : Nat} {LT LP : Row → Int32} {d na v e : Nat}
theorem clr_self : ∀ u, u < 64 → ∀ p, p < 6 → ub u p = false → clr u p = u := by decide +kernel
theorem nobody : ∀ u, u < 64 → (∀ p, p < 6 → ub u p = false) → u = 0 := by decide +kernel
theorem nI_0i {u : Nat} (h : u < 64) : (nI u = 0) = (u = 0) := nI_EQ (b := 0) (by omega) (by decide)
/-- one sits down as it told, on both sides -/
theorem wsit_is {p k a : Nat} {l : Int32} (hS : Sm T I P (x + 127) c Iz z n u tn LT LP e true) (hp : p < n) (hk : k ≤ 20) (ha : a ≤ 20) : ∃ I1 Iz1 u1 e1, waP I x (nI p) (nI a) l (nI k) = some (if ub u p = true then nI k else l, I1) ∧ rwP Iz z (nI p) (nI a) (nI k) = some Iz1 ∧ Sm T I1 P (x + 127) c Iz1 z n u1 tn LT LP e1 true ∧ e1 ≤ e + 1 ∧ (u1 = if k = a then clr u p else u) ∧ Fx I I1 (x + 127) c ∧ Fr Iz Iz1 z := by
  have hn := hS.1.1
  have hup : s_isUp I (x + 127) (nI p) = b2 (ub u p) := s_isUp_is (hS.2.2.2.2.1.2.1.trans hS.1.2.2.1) hS.1.u64 (by omega)
  have hru : r_isUp Iz z (nI p) = some (b2 (ub u p)) := r_isUp_is hS.1.2.2.1 hS.1.u64 (by omega)
  unfold waP rwP
  rw [hup, hru, Option.bind_some]
  try dsimp only
  cases hb : ub u p with
  | false =>
    rw [if_pos (show b2 false = 0 from rfl), if_pos (show b2 false = 0 from rfl), if_neg (show ¬ false = true by decide)]
    refine ⟨I, Iz, u, e, rfl, ?_, hS, by omega, ?_, Fx.rf, Fr.rf⟩
    · by_cases hka : nI k = nI a
      · rw [if_pos hka]
      · rw [if_neg hka]
    · rw [clr_self u hS.1.u64 p (by omega) hb]
      split <;> rfl
  | true =>
    rw [if_neg (show ¬ b2 true = 0 by decide), if_neg (show ¬ b2 true = 0 by decide), if_pos rfl]
    by_cases hka : k = a
    · subst hka
      rw [if_pos rfl, if_pos rfl, if_pos rfl]
      obtain ⟨I1, Iz1, q1, q2, S1, fx, fr⟩ := sm_seat hS hp
      rw [q1, q2, Option.bind_some]
      exact ⟨I1, Iz1, clr u p, e + 1, rfl, rfl, S1, Nat.le_refl _, rfl, fx, fr⟩
    · have hk2 : ¬ nI k = nI a := fun cc => hka ((nI_eq (by omega) (by omega)).mp cc)
      rw [if_neg hk2, if_neg hk2, if_neg hka]
      exact ⟨I, Iz, u, e, rfl, rfl, hS, by omega, rfl, Fx.rf, Fr.rf⟩
theorem wait_go {p q t a b : Nat} (hp : p < n) (hq : q < n) (hpq : p ≠ q) (ha : a ≤ 20) (hb : b ≤ 20) : ∀ (j k f g e u : Nat) (s1 s2 r1 r2 : Int32) (I Iz : Nat → Nat → Int32), k + j = 20 → j + 1 < f → j + 1 < g → e + 3 * j + 3 < 1000000 → Sm T I P (x + 127) c Iz z n u tn LT LP e true → (∀ r, r < 6 → r ≠ p → r ≠ q → ub u r = false) → (ub u p = true → k ≤ a) → (ub u q = true → k ≤ b) → (r1 = if ub u p = true then nI k else s1) → (r2 = if ub u q = true then nI k else s2) →
    ∃ I1 Iz1 u1 e1 y1 y2 m1 m2, wa_standAgainst_20 2000 T P x c (nI t) (nI p) (nI q) (nI a) (nI b) f s1 s2 (nI k) I = some (y1, y2, m1, I1) ∧ r_laysWait_43 2000 z (nI p) (nI q) (nI t) (nI a) (nI b) g r1 r2 (nI k) Iz = some (y1, y2, m2, Iz1) ∧ Sm T I1 P (x + 127) c Iz1 z n u1 tn LT LP e1 true ∧ e1 < 1000000 ∧ Fx I I1 (x + 127) c ∧ Fr Iz Iz1 z := by
  intro j
  induction j with
  | zero =>
    intro k f g e u s1 s2 r1 r2 I Iz hk hf hg he hS hno hka hkb hr1 hr2
    obtain ⟨f, rfl⟩ : ∃ f', f = f' + 1 := ⟨f - 1, by omega⟩
    obtain ⟨g, rfl⟩ : ∃ f', g = f' + 1 := ⟨g - 1, by omega⟩
    obtain rfl : k = 20 := by omega
    have hn := hS.1.1
    obtain ⟨I1, Iz1, u1, e1, w1, w2, S1, e1e, u1e, fx1, fr1⟩ := wsit_is (l := s1) hS hp (Nat.le_refl 20) ha
    obtain ⟨I2, Iz2, u2, e2, w3, w4, S2, e2e, u2e, fx2, fr2⟩ := wsit_is (l := s2) S1 hq (Nat.le_refl 20) hb
    have hq1 : ub u1 q = ub u q := by
      rw [u1e]
      split
      · rw [clr_ub u hS.1.u64 p (by omega) q (by omega)]
        simp [hpq]
      · rfl
    have z2 : u2 = 0 := by
      refine nobody u2 S2.1.u64 (fun r hr => ?_)
      rw [u2e, u1e]
      by_cases c1 : (20 : Nat) = a
      · by_cases c2 : (20 : Nat) = b
        · rw [if_pos c2, if_pos c1, clr_ub _ (clr_lt u hS.1.u64 p (by omega)) q (by omega) r hr, clr_ub u hS.1.u64 p (by omega) r hr]
          by_cases e1 : r = p
          · subst e1; simp
          · by_cases e2 : r = q
            · subst e2; simp
            · rw [hno r hr e1 e2]; rfl
        · have hqf : ub u q = false := by
            cases hh : ub u q with
            | false => rfl
            | true => exact absurd (hkb hh) (by omega)
          rw [if_neg c2, if_pos c1, clr_ub u hS.1.u64 p (by omega) r hr]
          by_cases e1 : r = p
          · subst e1; simp
          · by_cases e2 : r = q
            · subst e2; rw [hqf]; rfl
            · rw [hno r hr e1 e2]; rfl
      · have hpf : ub u p = false := by
          cases hh : ub u p with
          | false => rfl
          | true => exact absurd (hka hh) (by omega)
        by_cases c2 : (20 : Nat) = b
        · rw [if_pos c2, if_neg c1, clr_ub u hS.1.u64 q (by omega) r hr]
          by_cases e1 : r = p
          · subst e1; rw [hpf]; rfl
          · by_cases e2 : r = q
            · subst e2; simp
            · rw [hno r hr e1 e2]; rfl
        · have hqf : ub u q = false := by
            cases hh : ub u q with
            | false => rfl
            | true => exact absurd (hkb hh) (by omega)
          rw [if_neg c2, if_neg c1]
          by_cases e1 : r = p
          · subst e1; exact hpf
          · by_cases e2 : r = q
            · subst e2; exact hqf
            · exact hno r hr e1 e2
    rw [wa_step, if_neg (show ¬ (20 : Int32) < nI 20 by decide), w1, Option.bind_some]
    try dsimp only
    rw [w3, Option.bind_some, rw_step, w2, Option.bind_some, w4, Option.bind_some]
    try dsimp only
    have x1 : I2 (x + 127) 1 = 0 := by rw [S2.2.2.2.2.1.2.1, S2.1.2.2.1, z2]; rfl
    have x2 : Iz2 (z + 1) (Int32.toNatClampNeg 32) = 0 := by rw [show Int32.toNatClampNeg 32 = 32 from rfl, S2.1.2.2.1, z2]; rfl
    rw [if_pos x1, if_pos x2, hr1, hr2, hq1]
    exact ⟨I2, Iz2, u2, e2, _, _, _, _, rfl, rfl, S2, by omega, fx1.tr fx2, fr1.tr fr2⟩
  | succ j ih =>
    intro k f g e u s1 s2 r1 r2 I Iz hk hf hg he hS hno hka hkb hr1 hr2
    obtain ⟨f, rfl⟩ : ∃ f', f = f' + 1 := ⟨f - 1, by omega⟩
    obtain ⟨g, rfl⟩ : ∃ f', g = f' + 1 := ⟨g - 1, by omega⟩
    have hn := hS.1.1
    obtain ⟨I1, Iz1, u1, e1, w1, w2, S1, e1e, u1e, fx1, fr1⟩ := wsit_is (l := s1) hS hp (show k ≤ 20 by omega) ha
    obtain ⟨I2, Iz2, u2, e2, w3, w4, S2, e2e, u2e, fx2, fr2⟩ := wsit_is (l := s2) S1 hq (show k ≤ 20 by omega) hb
    have hq1 : ub u1 q = ub u q := by
      rw [u1e]
      split
      · rw [clr_ub u hS.1.u64 p (by omega) q (by omega)]
        simp [hpq]
      · rfl
    have le1 : ∀ r, r < 6 → ub u1 r = true → ub u r = true := fun r hr h => by
      rw [u1e] at h
      split at h
      · rw [clr_ub u hS.1.u64 p (by omega) r hr] at h
        revert h
        cases ub u r <;> simp
      · exact h
    have le2 : ∀ r, r < 6 → ub u2 r = true → ub u1 r = true := fun r hr h => by
      rw [u2e] at h
      split at h
      · rw [clr_ub u1 S1.1.u64 q (by omega) r hr] at h
        revert h
        cases ub u1 r <;> simp
      · exact h
    rw [wa_step, if_neg (show ¬ (20 : Int32) < nI k from nI_nlt (a := 20) (by omega) (by omega)), w1, Option.bind_some]
    try dsimp only
    rw [w3, Option.bind_some, rw_step, w2, Option.bind_some, w4, Option.bind_some]
    try dsimp only
    have x1 : I2 (x + 127) 1 = nI u2 := by rw [S2.2.2.2.2.1.2.1, S2.1.2.2.1]
    have x2 : Iz2 (z + 1) (Int32.toNatClampNeg 32) = nI u2 := by rw [show Int32.toNatClampNeg 32 = 32 from rfl, S2.1.2.2.1]
    by_cases z2 : u2 = 0
    · rw [if_pos (show I2 (x + 127) 1 = 0 by rw [x1, z2]; rfl), if_pos (show Iz2 (z + 1) (Int32.toNatClampNeg 32) = 0 by rw [x2, z2]; rfl), hr1, hr2, hq1]
      exact ⟨I2, Iz2, u2, e2, _, _, _, _, rfl, rfl, S2, by omega, fx1.tr fx2, fr1.tr fr2⟩
    rw [if_neg (show ¬ I2 (x + 127) 1 = 0 by rw [x1, nI_0i S2.1.u64]; exact z2), if_neg (show ¬ Iz2 (z + 1) (Int32.toNatClampNeg 32) = 0 by rw [x2, nI_0i S2.1.u64]; exact z2)]
    obtain ⟨I3, Iz3, cnt, p1, p2, -, S3, fx3, fr3⟩ := cp_pl (w := true) (t := t) S2 (by omega) (fun _ => rfl)
    have p1 : s_playMinute 2000 T I2 P (x + 127) c (nI t) 1 = some I3 := p1
    rw [p1, p2, Option.bind_some, Option.bind_some]
    try dsimp only
    generalize hu3 : (mplay LT LP (Iz2 (z + 1)) n u2 t).1 = u3 at S3
    have le3 : ∀ r, r < 6 → ub u3 r = true → ub u2 r = true := fun r hr h => by
      rw [← hu3] at h
      exact mplay_up hn S2.1.u64 hr h
    rw [r_isUp_is S3.1.2.2.1 S3.1.u64 (show p < 6 by omega), r_isUp_is S3.1.2.2.1 S3.1.u64 (show q < 6 by omega), Option.bind_some, Option.bind_some, nI_1]
    have kp : ub u3 p = true → ub u p = true ∧ k < a := fun h => by
      have h1 := le1 p (by omega) (le2 p (by omega) (le3 p (by omega) h))
      refine ⟨h1, ?_⟩
      have := hka h1
      by_cases c1 : k = a
      · exfalso
        have h2 := le2 p (by omega) (le3 p (by omega) h)
        rw [u1e, if_pos c1, clr_ub u hS.1.u64 p (by omega) p (by omega)] at h2
        simp at h2
      · omega
    have kq : ub u3 q = true → ub u q = true ∧ k < b := fun h => by
      have h1 := le1 q (by omega) (le2 q (by omega) (le3 q (by omega) h))
      refine ⟨h1, ?_⟩
      have := hkb h1
      by_cases c1 : k = b
      · exfalso
        have h2 := le3 q (by omega) h
        rw [u2e, if_pos c1, clr_ub u1 S1.1.u64 q (by omega) q (by omega)] at h2
        simp at h2
      · omega
    obtain ⟨I4, Iz4, u4, e4, y1, y2, m1, m2, g1, g2, S4, e4e, fx4, fr4⟩ := ih (k + 1) f g (e2 + 1) u3 (if ub u p = true then nI k else s1) (if ub u1 q = true then nI k else s2) (if b2 (ub u3 p) = 0 then r1 + 0 else r1 + 1) (if b2 (ub u3 q) = 0 then r2 + 0 else r2 + 1) I3 Iz3 (by omega) (by omega) (by omega) (by omega) S3 (fun r hr h1 h2 => by
        cases hh : ub u3 r with
        | false => rfl
        | true =>
          have := le1 r hr (le2 r hr (le3 r hr hh))
          rw [hno r hr h1 h2] at this
          cases this) (fun h => by have := kp h; omega) (fun h => by have := kq h; omega) (by
        cases hh : ub u3 p with
        | false => rw [if_pos (show b2 false = 0 from rfl), if_neg (show ¬ false = true by decide), hr1, Int32.add_zero]
        | true => rw [if_neg (show ¬ b2 true = 0 by decide), if_pos rfl, hr1, if_pos (kp hh).1, nI_1]) (by
        cases hh : ub u3 q with
        | false => rw [if_pos (show b2 false = 0 from rfl), if_neg (show ¬ false = true by decide), hr2, Int32.add_zero, hq1]
        | true => rw [if_neg (show ¬ b2 true = 0 by decide), if_pos rfl, hr2, if_pos (kq hh).1, nI_1])
    exact ⟨I4, Iz4, u4, e4, y1, y2, m1, m2, g1, g2, S4, e4e, ((fx1.tr fx2).tr fx3).tr fx4, ((fr1.tr fr2).tr fr3).tr fr4⟩
end
