/-! strengths: rooms, bound, next -/
theorem nar_1 : vp_nar .boolean 1 = 1 := rfl
theorem nar_0 : vp_nar .boolean 0 = 0 := rfl
section
variable {T : Nat → Option (Nat × Nat)} {I : Nat → Nat → Int32} {J : Nat → Nat → Int64} {P : Nat → Nat → Option Nat} {x nn a c : Nat} {Iz : Nat → Nat → Int32} {Jz : Nat → Nat → Int64} {z N n u tn : Nat} {LT LP : Row → Int32} {d na v e : Nat}
/-- a strength is set on a State and on the row -/
theorem sm_str {p : Nat} {w : Bool} (hS : Sm T I P a c Iz z n u tn LT LP e w) (hp : p < n) (s : Int32) : Sm T (uI I (a + 1) p s) P a c (uI Iz (z + 1) (41 + p) s) z n u tn LT LP e w ∧ Fx I (uI I (a + 1) p s) a c ∧ Fr Iz (uI Iz (z + 1) (41 + p) s) z := by
  obtain ⟨h1, h2, h3, h4, h5, h6, h7, h8⟩ := hS
  have hn := h1.1
  have fx : Fx I (uI I (a + 1) p s) a c := fun q a1 a2 a3 a4 => uI_row _ _ _ _ _ (by omega)
  have fr : Fr Iz (uI Iz (z + 1) (41 + p) s) z := ⟨fun q a1 a2 a3 a4 a5 => uI_row _ _ _ _ _ a1, fun k hk => uI_k _ _ _ _ _ (by omega)⟩
  have eo : ∀ k, k ≠ 41 + p → uI Iz (z + 1) (41 + p) s (z + 1) k = Iz (z + 1) k := fun k hk => uI_k _ _ _ _ _ hk
  have ee : uI Iz (z + 1) (41 + p) s (z + 1) (41 + p) = s := uI_e _ _ _ _
  refine ⟨⟨h1.row (eo _ (by omega)) (fun k b1 b2 => eo k (by omega)), h2.same (fun k hk => eo k (by omega)), h3.same (fun k hk => eo k (by omega)), ?_, ?_, ⟨by rw [eo _ (by omega)]; exact h6.1, h6.2⟩, h7, ⟨by rw [eo _ (by omega)]; exact h8.1, fun q hq => (h8.2 q hq).row (eo _ (by omega)) (eo _ (by omega))⟩⟩, fx, fr⟩
  · refine (h4.row (fun k hk => eo k (by omega))).same (fun q a1 a2 => uI_row _ _ _ _ _ (by have := h7.1; omega)) (fun w hw => uI_row _ _ _ _ _ (by have := h7.2 w hw; omega))
  · obtain ⟨r0, r1, r2, r3, r4⟩ := h5
    generalize hA : uI Iz (z + 1) (41 + p) s (z + 1) = A at *
    refine ⟨by rw [uI_o _ _ _ _ _ _ (by omega)]; exact r0, by rw [uI_o _ _ _ _ _ _ (by omega), eo _ (by omega)]; exact r1, by rw [uI_o _ _ _ _ _ _ (by omega), eo _ (by omega)]; exact r2, by rw [uI_o _ _ _ _ _ _ (by omega), eo _ (by omega)]; exact r3, fun q hq => ?_⟩
    obtain ⟨s1, s2, s3, s4, s5, s6⟩ := r4 q hq
    refine ⟨?_, fun hw => by rw [uI_o _ _ _ _ _ _ (by omega), eo _ (by omega)]; exact s2 hw, by rw [uI_o _ _ _ _ _ _ (by omega), eo _ (by omega)]; exact s3, by rw [uI_o _ _ _ _ _ _ (by omega), eo _ (by omega)]; exact s4, by rw [uI_o _ _ _ _ _ _ (by omega), eo _ (by omega)]; exact s5, ?_⟩
    · by_cases e : q = p
      · subst e; rw [ee, uI_e]
      · rw [eo _ (by omega), uI_k _ _ _ _ _ e]; exact s1
    · rw [uI_o _ _ _ _ _ _ (by omega), spo_out (A := Iz (z + 1)) (p := q) (eo _ (by omega))]; exact s6
/-- the row of rooms is scratch -/
def RB (I I1 : Nat → Nat → Int32) (x : Nat) (Iz Iz1 : Nat → Nat → Int32) (z : Nat) : Prop := (∀ q, q ≠ x + 134 → I1 q = I q) ∧ ∀ q, q ≠ z + 14 → Iz1 q = Iz q
theorem RB.rf0 : RB I I x Iz Iz z := ⟨fun _ _ => rfl, fun _ _ => rfl⟩
theorem RB.tr0 {I1 I2 Iz1 Iz2 : Nat → Nat → Int32} (h : RB I I1 x Iz Iz1 z) (h2 : RB I1 I2 x Iz1 Iz2 z) : RB I I2 x Iz Iz2 z := ⟨fun q a => (h2.1 q a).trans (h.1 q a), fun q a => (h2.2 q a).trans (h.2 q a)⟩
theorem RB.kx {I1 Iz1 : Nat → Nat → Int32} (h : RB I I1 x Iz Iz1 z) : KeepX I I1 x c := KeepX.of (fun q hq => h.1 q (fun e => hq (by unfold Scr; omega))) (h.1 _ (by omega)) (h.1 _ (by omega))
theorem RB.km {I1 Iz1 : Nat → Nat → Int32} (h : RB I I1 x Iz Iz1 z) : KeepM I I1 x :=
  ⟨h.1 _ (by omega), h.1 _ (by omega), h.1 _ (by omega), h.1 _ (by omega), h.1 _ (by omega), h.1 _ (by omega), h.1 _ (by omega), by rw [h.1 _ (by omega)], by rw [h.1 _ (by omega)], by rw [h.1 _ (by omega)]⟩
theorem RB.kz {I1 Iz1 : Nat → Nat → Int32} (h : RB I I1 x Iz Iz1 z) : KeepZ Iz Iz1 z :=
  ⟨h.2 _ (by omega), h.2 _ (by omega), h.2 _ (by omega), h.2 _ (by omega), h.2 _ (by omega), by rw [h.2 _ (by omega)], by rw [h.2 _ (by omega)], by rw [h.2 _ (by omega)]⟩
theorem RB.inv {I1 Iz1 : Nat → Nat → Int32} (h : RB I I1 x Iz Iz1 z) (hsr : isSR T P x) (hI : InvS T I J P x nn c Iz Jz z N n u tn LT LP d na v) : InvS T I1 J P x nn c Iz1 Jz z N n u tn LT LP d na v := hI.keep hsr h.kx (fun _ _ => rfl) (fun _ _ _ _ => rfl) h.kz
theorem RB.unq {I1 Iz1 I2 Iz2 : Nat → Nat → Int32} (h : RB I I1 x Iz Iz1 z) (hcx : c = x + 4 ∨ x + 224 ≤ c) (hx : Tx I1 I2 x c) (hK : Kz Iz1 Iz2 z) : Unq I I2 x c Iz Iz2 z :=
  ⟨h.kx.tr (unq_x hcx hx.1 hx.2).1, h.kz.tr hK.keep, h.km.tr (unq_x hcx hx.1 hx.2).2⟩
/-- a room is written on both sides -/
theorem rb_put {Ib Izb Iz1 I3 Iz3 : Nat → Nat → Int32} {l : Nat} {b : Int32} (hcx : c = x + 4 ∨ x + 224 ≤ c) (hx : Tx Ib I3 x c) (hK : Kz Izb Iz1 z) (fr : Fr Iz1 Iz3 z) :
    ∃ Ib' Izb' Iz5, RB Ib Ib' x Izb Izb' z ∧ Tx Ib' (uI I3 (x + 134) l b) x c ∧ r_isAgain 2000 (uI Iz3 (z + 14) l b) z = some Iz5 ∧ Kz Izb' Iz5 z ∧ Iz5 (z + 14) = uI Iz3 (z + 14) l b (z + 14) := by
  obtain ⟨k1, k2, k3, k4⟩ := hK
  have K1 : Kz (fun q => if q = z + 14 then uI Iz3 (z + 14) l b (z + 14) else Izb q) (fun q => if q = z + 14 then uI Iz3 (z + 14) l b (z + 14) else Iz1 q) z := by
    refine ⟨fun k hk => ?_, ?_, fun q a0 a5 a6 a7 a8 a9 => ?_, fun k hk => ?_⟩
    · show (if z + 7 = z + 14 then _ else Iz1 (z + 7)) k = (if z + 1 = z + 14 then _ else Izb (z + 1)) (32 + k)
      rw [if_neg (by omega), if_neg (by omega)]; exact k1 k hk
    · show (if z + 1 = z + 14 then _ else Iz1 (z + 1)) = (if z + 1 = z + 14 then _ else Izb (z + 1))
      rw [if_neg (by omega), if_neg (by omega)]; exact k2
    · show (if q = z + 14 then _ else Iz1 q) = (if q = z + 14 then _ else Izb q)
      by_cases e : q = z + 14
      · rw [if_pos e, if_pos e]
      · rw [if_neg e, if_neg e]; exact k3 q a0 a5 a6 a7 a8 a9
    · show (if z = z + 14 then _ else Iz1 z) k = (if z = z + 14 then _ else Izb z) k
      rw [if_neg (by omega), if_neg (by omega)]; exact k4 k hk
  have F1 : Fr (fun q => if q = z + 14 then uI Iz3 (z + 14) l b (z + 14) else Iz1 q) (uI Iz3 (z + 14) l b) z := by
    refine ⟨fun q a1 a5 a6 a8 a9 => ?_, fun k hk => ?_⟩
    · show _ = (if q = z + 14 then _ else Iz1 q)
      by_cases e : q = z + 14
      · rw [if_pos e, e]
      · rw [if_neg e, uI_row _ _ _ _ _ e]; exact fr.1 q a1 a5 a6 a8 a9
    · show _ = (if z + 1 = z + 14 then _ else Iz1 (z + 1)) k
      rw [if_neg (by omega), uI_o _ _ _ _ _ _ (by omega)]; exact fr.2 k hk
  obtain ⟨Iz5, e1, K5⟩ := kz_back K1 F1
  refine ⟨fun q => if q = x + 134 then uI I3 (x + 134) l b (x + 134) else Ib q, _, Iz5, ⟨fun q hq => if_neg hq, fun q hq => if_neg hq⟩, ⟨fun q a1 a2 a3 a4 a5 a6 => ?_, fun k hk => ?_⟩, e1, K5, ?_⟩
  · show _ = (if q = x + 134 then _ else Ib q)
    by_cases e : q = x + 134
    · rw [if_pos e, e]
    · rw [if_neg e, uI_row _ _ _ _ _ e]; exact hx.1 q a1 a2 a3 a4 a5 a6
  · show _ = (if x + 108 = x + 134 then _ else Ib (x + 108)) k
    rw [if_neg (by omega), uI_o _ _ _ _ _ _ (by omega)]; exact hx.2 k hk
  · rw [K5.2.2.1 _ (by omega) (by omega) (by omega) (by omega) (by omega) (by omega)]
    exact if_pos rfl
theorem rooms_go (hsr : isSR T P x) (hN : N < 600) {t m p k : Nat} {tl : Nat → Nat} (hp : p < n) (hk : k ≤ m) : ∀ (j l f g s : Nat) (Ib Izb I1 Iz1 : Nat → Nat → Int32), l + j = 100 → j < f → j < g → s ≤ l → InvS T Ib J P x nn c Izb Jz z N n u tn LT LP d na v → Tx Ib I1 x c → Kz Izb Iz1 z → Ngt I1 x Iz1 Jz z t m tn tl → (∀ i, i < l → I1 (x + 134) i = Iz1 (z + 14) i) →
    ∃ s' Ib' Izb' I2 Iz2, x_findRooms_5 2000 T P x c (nI p) (nI k) f (nI s) (nI l) I1 = some (nI s', nI 100, I2) ∧ r_laysRooms_10 2000 Jz z (nI t) (nI p) (nI k) g (nI s) (nI l) Iz1 = some (nI s', nI 100, Iz2) ∧ s' ≤ 100 ∧ RB Ib Ib' x Izb Izb' z ∧ Tx Ib' I2 x c ∧ Kz Izb' Iz2 z ∧ Ngt I2 x Iz2 Jz z t m tn tl ∧ ∀ i, i < 100 → I2 (x + 134) i = Iz2 (z + 14) i := by
  intro j
  induction j with
  | zero =>
    intro l f g s Ib Izb I1 Iz1 hl hf hg hs h hx hK hNg hR
    obtain ⟨f, rfl⟩ : ∃ f', f = f' + 1 := ⟨f - 1, by omega⟩
    obtain ⟨g, rfl⟩ : ∃ f', g = f' + 1 := ⟨g - 1, by omega⟩
    obtain rfl : l = 100 := by omega
    refine ⟨s, Ib, Izb, I1, Iz1, ?_, ?_, hs, RB.rf0, hx, hK, hNg, hR⟩
    · rw [x_findRooms_5, if_pos (by decide)]
    · rw [r_laysRooms_10, if_pos (by decide)]
  | succ j ih =>
    intro l f g s Ib Izb I1 Iz1 hl hf hg hs h hx hK hNg hR
    obtain ⟨f, rfl⟩ : ∃ f', f = f' + 1 := ⟨f - 1, by omega⟩
    obtain ⟨g, rfl⟩ : ∃ f', g = f' + 1 := ⟨g - 1, by omega⟩
    have hcx := (h.1 c (Or.inl rfl)).1.1
    have hn := h.n6
    have hm := hNg.2.1
    have n99 : ¬ (99 : Int32) < nI l := fun cc => by have := (nI_ltI (a := 99) (b := l) (by omega) (by omega)).mp cc; omega
    obtain ⟨e, I2, c1, he, S, hN2, xq, x8⟩ := trial_is (I0 := Ib) h (Iz1 := Iz1) hx.1 hx.2 hNg hK.2.1
    obtain ⟨S3, fx3, fr3⟩ := sm_str (a := x + 101) S hp (nI l)
    obtain ⟨r, I4, Iz4, m1, m2, hr, fx4, fr4⟩ := mins_is hcx (by omega) hp (by omega) S3.np (hN2.go hcx (by omega) fx3 fr3)
    have hN4 := (hN2.go hcx (by omega) fx3 fr3).go hcx (by omega) fx4 fr4
    have hx4 : Tx Ib I4 x c := gone_x hcx xq x8 (fx3.tr fx4)
    have r134 : ∀ i, I4 (x + 134) i = I1 (x + 134) i := fun i => by rw [hx4.1 _ (by omega) (by omega) (by omega) (by omega) (by omega) (by omega), hx.1 _ (by omega) (by omega) (by omega) (by omega) (by omega) (by omega)]
    have r14 : ∀ i, Iz4 (z + 14) i = Iz1 (z + 14) i := fun i => by rw [(fr3.tr fr4).1 _ (by omega) (by omega) (by omega) (by omega) (by omega)]
    have go : ∀ (b : Int32) (s1 : Nat), s1 ≤ l + 1 → ∃ Iz5, r_isAgain 2000 (uI Iz4 (z + 14) l b) z = some Iz5 ∧ ∃ s' Ib' Izb' I2 Iz2, x_findRooms_5 2000 T P x c (nI p) (nI k) f (nI s1) (nI (l + 1)) (uI I4 (x + 134) l b) = some (nI s', nI 100, I2) ∧ r_laysRooms_10 2000 Jz z (nI t) (nI p) (nI k) g (nI s1) (nI (l + 1)) Iz5 = some (nI s', nI 100, Iz2) ∧ s' ≤ 100 ∧ RB Ib Ib' x Izb Izb' z ∧ Tx Ib' I2 x c ∧ Kz Izb' Iz2 z ∧ Ngt I2 x Iz2 Jz z t m tn tl ∧ ∀ i, i < 100 → I2 (x + 134) i = Iz2 (z + 14) i := by
      intro b s1 hs1
      obtain ⟨Ib', Izb', Iz5, q1, q2, q3, q4, q5⟩ := rb_put (l := l) (b := b) hcx hx4 hK (fr3.tr fr4)
      refine ⟨Iz5, q3, ?_⟩
      have hN5 : Ngt (uI I4 (x + 134) l b) x Iz5 Jz z t m tn tl := hN4.fx (uI_o _ _ _ _ _ _ (by omega)) (uI_row _ _ _ _ _ (by omega)) (by rw [q4.n19, q1.2 _ (by omega), ← hK.n19, ← (fr3.tr fr4).1 _ (by omega) (by omega) (by omega) (by omega) (by omega)])
      obtain ⟨s', Ib2, Izb2, I6, Iz6, a1, a2, a3, a4, a5⟩ := ih (l + 1) f g s1 Ib' Izb' _ Iz5 (by omega) (by omega) (by omega) hs1 (q1.inv hsr h) q2 q4 hN5 (fun i hi => by
        rw [q5]
        by_cases e : i = l
        · subst e; rw [uI_e, uI_e]
        · rw [uI_k _ _ _ _ _ e, uI_k _ _ _ _ _ e, r134, r14]; exact hR i (by omega))
      exact ⟨s', Ib2, Izb2, I6, Iz6, a1, a2, a3, q1.tr0 a4, a5⟩
    obtain ⟨Iy, y1, y2⟩ := go 1 (s + 1) (by omega)
    obtain ⟨In, n1, n2⟩ := go 0 s (by omega)
    have i1 : ∀ (Iw : Nat → Nat → Int32) (q : Nat), ¬ uI Iw q (nI l).toNatClampNeg (vp_nar .boolean 1) q (nI l).toNatClampNeg = 0 := fun Iw q => by rw [uI_e]; decide
    have i0 : ∀ (Iw : Nat → Nat → Int32) (q : Nat), uI Iw q (nI l).toNatClampNeg (vp_nar .boolean 0) q (nI l).toNatClampNeg = 0 := fun Iw q => by rw [uI_e]; decide
    have hl100 : l < 100 := by omega
    have hlc : (nI l).toNatClampNeg = l := nI_cl (by omega)
    have ht := hNg.1
    have z0 : ∀ b : Int32, b + 0 = b := fun b => Int32.add_zero b
    rw [x_findRooms_5, if_neg n99, c1, Option.bind_some]
    try dsimp only
    rw [chk_nI (k := p) (N := 6) (by omega) (by decide), nI_cl (show p < 2147483648 by omega), m1, Option.bind_some]
    try dsimp only
    rw [r_laysRooms_10, if_neg n99, show (41 : Int32) + nI p = nI (41 + p) from nI_add 41 p, chk_nI (k := 41 + p) (N := 3891) (by omega) (by decide), nI_cl (show 41 + p < 2147483648 by omega)]
    try dsimp only
    rw [m2, Option.bind_some]
    try dsimp only
    have em : I4 (x + 108) 1 = nI m := hN4.2.2.1
    have zm : Iz4 (z + 19) (nI t).toNatClampNeg = nI m := by rw [nI_cl (show t < 2147483648 by omega)]; exact hN4.2.2.2.1
    by_cases k0 : k = 0
    · rw [if_pos (show nI k = 0 by rw [k0]; rfl), chk_nI (k := t) (N := 4) ht (by decide)]
      by_cases er : r = m
      · rw [if_pos (show nI r = I4 (x + 108) 1 by rw [em, er]), if_pos (show (0 : Int32) = nI k by rw [k0]; rfl), chk_nI hl100 (by decide), if_pos (show (0 : Int32) = nI k by rw [k0]; rfl), if_pos (show nI r = Iz4 (z + 19) (nI t).toNatClampNeg by rw [zm, er]), chk_nI hl100 (by decide), if_neg (i1 _ _), hlc, nar_1, y1, Option.bind_some, nI_1, nI_1]
        exact y2
      · have en : ¬ nI r = nI m := fun cc => er ((nI_eq (by omega) (by omega)).mp cc)
        have ek : ¬ nI r + 1 = nI k := fun cc => by rw [nI_1] at cc; have := (nI_eq (by omega) (by omega)).mp cc; omega
        rw [if_neg (show ¬ nI r = I4 (x + 108) 1 by rw [em]; exact en), if_neg ek, chk_nI hl100 (by decide), if_neg ek, if_neg (show ¬ nI r = Iz4 (z + 19) (nI t).toNatClampNeg by rw [zm]; exact en), chk_nI hl100 (by decide), if_pos (i0 _ _), hlc, nar_0, n1, Option.bind_some, nI_1, z0]
        exact n2
    · rw [if_neg (show ¬ nI k = 0 from fun cc => k0 ((nI_eq (b := 0) (by omega) (by omega)).mp cc))]
      have ek1 : nI k - 1 = nI (k - 1) := nI_SB (b := 1) (by omega)
      by_cases er : r + 1 = k
      · have en : ¬ nI r = nI m := fun cc => by have := (nI_eq (by omega) (by omega)).mp cc; omega
        have ek : nI r + 1 = nI k := by rw [nI_1, er]
        rw [if_neg (show ¬ nI r = I4 (x + 108) 1 by rw [em]; exact en), if_pos ek, chk_nI hl100 (by decide), if_pos ek, if_pos (show nI r = nI k - 1 by rw [ek1, show k - 1 = r by omega]), chk_nI hl100 (by decide), if_neg (i1 _ _), hlc, nar_1, y1, Option.bind_some, nI_1, nI_1]
        exact y2
      · have ek2 : ¬ nI r = nI k - 1 := fun cc => by rw [ek1] at cc; have := (nI_eq (by omega) (by omega)).mp cc; omega
        by_cases er2 : r = m
        · have ek : ¬ (0 : Int32) = nI k := fun cc => k0 ((nI_eq (a := 0) (by omega) (by omega)).mp cc).symm
          rw [if_pos (show nI r = I4 (x + 108) 1 by rw [em, er2]), if_neg ek, chk_nI hl100 (by decide), if_neg ek, if_neg ek2, chk_nI hl100 (by decide), if_pos (i0 _ _), hlc, nar_0, n1, Option.bind_some, nI_1, z0]
          exact n2
        · have en : ¬ nI r = nI m := fun cc => er2 ((nI_eq (by omega) (by omega)).mp cc)
          have ek : ¬ nI r + 1 = nI k := fun cc => by rw [nI_1] at cc; have := (nI_eq (by omega) (by omega)).mp cc; omega
          rw [if_neg (show ¬ nI r = I4 (x + 108) 1 by rw [em]; exact en), if_neg ek, chk_nI hl100 (by decide), if_neg ek, if_neg ek2, chk_nI hl100 (by decide), if_pos (i0 _ _), hlc, nar_0, n1, Option.bind_some, nI_1, z0]
          exact n2
/-- the questions ahead of rooms -/
theorem readRooms_is (h : InvS T I J P x nn c Iz Jz z N n u tn LT LP d na v) (a b w : Int32) : ∃ r I1, x_readRooms 2000 I J x c a b w = some (r, I1) ∧ r_noRooms 2000 (uI Iz z 0 0) Jz z a b w = some r ∧ (∀ q, q ≠ x + 108 → q ≠ x + 109 → I1 q = I q) ∧ (∀ k, k ≠ 1 → I1 (x + 108) k = I (x + 108) k) ∧ (r = 0 → ∃ t p m k tl, a = nI t ∧ b = nI p ∧ w = nI k ∧ k ≤ m ∧ p < n ∧ ub u p = true ∧ Ngt I1 x (uI Iz z 0 0) Jz z t m tn tl) := by
  have hn := h.n6
  have z1 : uI Iz z 0 0 (z + 1) = Iz (z + 1) := thr_row (by decide)
  obtain ⟨r, I1, e1, e2, r1, r2, r3⟩ := readNight_is h a b
  unfold x_readRooms r_noRooms
  rw [e1, e2, Option.bind_some, Option.bind_some]
  try dsimp only
  by_cases hw : r = 0
  · obtain ⟨t, p, m, tl, rfl, rfl, hp, hNg⟩ := r3 hw
    subst hw
    have hm := hNg.2.1
    have ht := hNg.1
    rw [if_pos rfl, if_pos rfl, chk_nI ht (by decide), nI_cl (show t < 2147483648 by omega)]
    have em : I1 (x + 108) 1 = nI m := hNg.2.2.1
    have zm : uI Iz z 0 0 (z + 19) t = nI (m + 1) - 1 := by rw [hNg.2.2.2.1, show nI (m + 1) - 1 = nI m from nI_SB (a := m + 1) (b := 1) (by omega)]
    have bad : (-3 : Int32) ≠ 0 := by decide
    rcases arg_cases w (m + 1) (by omega) with hk | ⟨k, hk, rfl⟩
    · rw [if_pos (show r_within (Int32.toInt64 w) 0 (Int32.toInt64 (uI Iz z 0 0 (z + 19) t)) = 0 by rw [zm]; exact within_bad (n := m + 1) (by omega) hk)]
      by_cases c0 : w < 0
      · rw [if_pos c0]
        exact ⟨_, _, rfl, rfl, r1, r2, fun cc => absurd cc bad⟩
      · have c1 : ¬ w ≤ I1 (x + 108) 1 := fun cc => by
          rcases hk with hk | hk
          · exact c0 hk
          rw [em] at cc
          have e1 := Int32.le_iff_toInt_le.mp cc
          have e2 := Int32.le_iff_toInt_le.mp hk
          have e3 : (nI m).toInt < (nI (m + 1)).toInt := Int32.lt_iff_toInt_lt.mp ((nI_ltI (by omega) (by omega)).mpr (by omega))
          omega
        rw [if_neg c0, if_neg c1]
        exact ⟨_, _, rfl, rfl, r1, r2, fun cc => absurd cc bad⟩
    · rw [if_neg (show ¬ r_within (Int32.toInt64 (nI k)) 0 (Int32.toInt64 (uI Iz z 0 0 (z + 19) t)) = 0 by rw [zm, within_ok (n := m + 1) (by omega) hk]; decide), if_neg (show ¬ nI k < 0 from nI_nlt (b := 0) (by omega) (by omega)), if_pos (show nI k ≤ I1 (x + 108) 1 by rw [em]; exact nI_le (by omega) (by omega)), s_isUp_is (u := u) (by rw [r1 _ (by omega) (by omega)]; exact h.rs.2.1.trans h.wf.2.2.1) h.wf.u64 (by omega), r_isUp_is (u := u) (by rw [z1]; exact h.wf.2.2.1) h.wf.u64 (by omega), Option.bind_some]
      try dsimp only
      cases hb : ub u p with
      | false =>
        rw [if_pos (show b2 false = 0 from rfl), if_pos (show b2 false = 0 from rfl)]
        exact ⟨_, _, rfl, rfl, r1, r2, fun cc => absurd (show (-5 : Int32) = 0 from cc) (by decide)⟩
      | true =>
        rw [if_neg (show ¬ b2 true = 0 by decide), if_neg (show ¬ b2 true = 0 by decide)]
        exact ⟨_, _, rfl, rfl, r1, r2, fun _ => ⟨t, p, m, k, tl, rfl, rfl, rfl, by omega, hp, hb, hNg⟩⟩
  · rw [if_neg hw, if_neg hw]
    exact ⟨_, _, rfl, rfl, r1, r2, fun cc => absurd cc hw⟩
/-- the rooms found on both sides -/
theorem findRooms_is (hsr : isSR T P x) (h : InvS T I J P x nn c Iz Jz z N n u tn LT LP d na v) (hN : N < 600) {t m p k : Nat} {tl : Nat → Nat} {I1 : Nat → Nat → Int32} (r1 : ∀ q, q ≠ x + 108 → q ≠ x + 109 → I1 q = I q) (r2 : ∀ k, k ≠ 1 → I1 (x + 108) k = I (x + 108) k) (hp : p < n) (hk : k ≤ m) (hNg : Ngt I1 x (uI Iz z 0 0) Jz z t m tn tl) :
    ∃ s Ib Izb I2 Iz2, x_findRooms 2000 T I1 P x c (nI p) (nI k) = some (nI s, I2) ∧ r_laysRooms 2000 (uI Iz z 0 0) Jz z (nI t) (nI p) (nI k) = some (nI s, Iz2) ∧ s ≤ 100 ∧ RB I Ib x Iz Izb z ∧ Tx Ib I2 x c ∧ Kz Izb Iz2 z ∧ Ngt I2 x Iz2 Jz z t m tn tl ∧ ∀ i, i < 100 → I2 (x + 134) i = Iz2 (z + 14) i := by
  obtain ⟨Iz1, k1, K1⟩ := kz_start (Iz := Iz) (z := z)
  have hx : Tx I I1 x c := ⟨rdn_x (c := c) r1, r2⟩
  have hN1 : Ngt I1 x Iz1 Jz z t m tn tl := hNg.fx rfl rfl (by rw [K1.n19, thr_row (by decide)])
  obtain ⟨s, Ib, Izb, I2, Iz2, a1, a2, a3⟩ := rooms_go hsr hN hp hk 100 0 2000 2000 0 I Iz I1 Iz1 (by omega) (by omega) (by omega) (by omega) h hx K1 hN1 (fun i hi => absurd hi (by omega))
  have a1 : x_findRooms_5 2000 T P x c (nI p) (nI k) 2000 0 0 I1 = _ := a1
  have a2 : r_laysRooms_10 2000 Jz z (nI t) (nI p) (nI k) 2000 0 0 Iz1 = _ := a2
  unfold x_findRooms r_laysRooms
  rw [a1, k1, Option.bind_some, Option.bind_some]
  try dsimp only
  rw [a2, Option.bind_some]
  exact ⟨s, Ib, Izb, I2, Iz2, rfl, rfl, a3⟩
theorem rooms_call (hsr : isSR T P x) (h : InvS T I J P x nn c Iz Jz z N n u tn LT LP d na v) (hN : N < 600) (a b w : Int32) : ∃ r I2 Iz2, x_rooms 2000 T I J P x c a b w = some (r, I2) ∧ r_rooms 2000 Iz Jz z a b w = some (r, Iz2) ∧ Unq I I2 x c Iz Iz2 z := by
  have hcx := (h.1 c (Or.inl rfl)).1.1
  obtain ⟨r, I1, e1, e2, r1, r2, r3⟩ := readRooms_is h a b w
  unfold x_rooms r_rooms
  try dsimp only
  rw [e1, e2, Option.bind_some, Option.bind_some]
  try dsimp only
  by_cases hw : r = 0
  · obtain ⟨t, p, m, k, tl, rfl, rfl, rfl, hk, hp, hu, hNg⟩ := r3 hw
    subst hw
    rw [if_pos rfl, if_pos rfl]
    obtain ⟨s, Ib, Izb, I2, Iz2, a1, a2, a3, a4, a5, a6, a7⟩ := findRooms_is hsr h hN r1 r2 hp hk hNg
    rw [a1, a2, Option.bind_some, Option.bind_some]
    exact ⟨_, _, _, rfl, rfl, a4.unq hcx a5 a6⟩
  · rw [if_neg hw, if_neg hw]
    exact ⟨_, _, _, rfl, rfl, unq_r r1 r2⟩
end
