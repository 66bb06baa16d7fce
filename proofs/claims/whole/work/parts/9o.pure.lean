/-! the call court -/
theorem len_of {w : Int32} {tp : Nat} (h0 : ¬ w < 0) (h1 : w ≤ nI tp) (ht : tp ≤ 900) : ∃ sz, sz ≤ tp ∧ w = nI sz := by
  have a0 : ¬ w.toInt < 0 := fun cc => h0 (Int32.lt_iff_toInt_lt.mpr cc)
  have a1 := Int32.le_iff_toInt_le.mp h1
  rw [nI_toInt (by omega)] at a1
  refine ⟨w.toInt.toNat, by omega, i32_eq.mpr ?_⟩
  rw [nI_toInt (by omega)]
  omega
def CtF (T' : Nat → Option (Nat × Nat)) (I I' : Nat → Nat → Int32) (J J' : Nat → Nat → Int64) (P' : Nat → Nat → Option Nat) (x nn nn' c : Nat) (Iz Iz2 : Nat → Nat → Int32) (Jz : Nat → Nat → Int64) (z N n u tn : Nat) (LT LP : Row → Int32) (d na v : Nat) : Prop := isSR T' P' x ∧ P' x 3 = some c ∧ Tlt T' nn' ∧ nn ≤ nn' ∧ InvS T' I' J' P' x nn' c Iz2 Jz z N n u tn LT LP d na v ∧ (∀ q, q < nn → q ≠ x → q ≠ x + 2 → q ≠ x + 3 → I' q = I q) ∧ (∀ q, q < nn → J' q = J q) ∧ KeepY Iz Iz2 z
def CtS (T' : Nat → Option (Nat × Nat)) (I I' : Nat → Nat → Int32) (J J' : Nat → Nat → Int64) (P' : Nat → Nat → Option Nat) (x nn nn' : Nat) (Iz2 : Nat → Nat → Int32) (Jz : Nat → Nat → Int64) (z N v : Nat) : Prop := ∃ n u tn LT LP d na, isSR T' P' x ∧ P' x 3 = some nn ∧ Tlt T' nn' ∧ nn ≤ nn' ∧ InvS T' I' J' P' x nn' nn Iz2 Jz z (N + 1) n u tn LT LP d na (v + 1) ∧ (∀ q, x + 94 ≤ q → q < x + 224 → I' q = I q) ∧ ∀ q, q < nn → J' q = J q
section
variable {T T' : Nat → Option (Nat × Nat)} {I I' : Nat → Nat → Int32} {J J' : Nat → Nat → Int64} {P P' : Nat → Nat → Option Nat} {x nn nn' c : Nat} {Iz Iz2 : Nat → Nat → Int32} {Jz : Nat → Nat → Int64} {z N n u tn : Nat} {LT LP : Row → Int32} {d na v : Nat}
theorem trays_gw (h : TrayR I J x Iz Jz z) (hnn : x + 224 ≤ nn) (hI : ∀ q, x + 94 ≤ q → q < x + 224 → I' q = I q) (hJ : ∀ q, q < nn → J' q = J q) (h18 : Iz2 (z + 18) = Iz (z + 18)) (h19 : Iz2 (z + 19) = Iz (z + 19)) : TrayR I' J' x Iz2 Jz z := fun t ht => by
  obtain ⟨m, a1, a2, a3, a4, a5⟩ := h t ht
  have e1 : I' (x + (135 + 2 * t)) = I (x + (135 + 2 * t)) := hI _ (by omega) (by omega)
  exact ⟨m, a1, by rw [h19]; exact a2, by rw [e1]; exact a3, by rw [e1, h18]; exact a4, fun i hi => by rw [hJ _ (by omega)]; exact a5 i hi⟩
theorem imgs_gw {lo : Nat} (hl : lo ≤ x + 20) (hL : Live P x nn c) (h : ∀ i, i < 2 → ImgR T I P x Iz z N i) (hnn : x + 224 ≤ nn) (g : Gw x nn lo T T' I I' P P') (h2 : Iz2 (z + 2) = Iz (z + 2)) (h1 : ∀ k, 1297 ≤ k → Iz2 (z + 1) k = Iz (z + 1) k) : ∀ i, i < 2 → ImgR T' I' P' x Iz2 z N i := fun i hi => by
  have hp : P' (x + 92) = P (x + 92) := g.2.2 _ (by omega) (by omega) (by omega)
  have hi01 : i = 0 ∨ i = 1 := by omega
  rcases h i hi with ⟨a1, a2⟩ | ⟨a1, ci, n1, u1, tn1, LT1, LP1, a2, a3⟩
  · exact Or.inl ⟨by rw [h2]; exact a1, by rw [hp]; exact a2⟩
  · have er : irow Iz2 z i = irow Iz z i := by
      unfold irow
      funext k
      exact h1 _ (by rcases hi01 with e | e <;> subst e <;> omega)
    refine Or.inr ⟨by rw [h2]; exact a1, ci, n1, u1, tn1, LT1, LP1, by rw [hp]; exact a2, ?_⟩
    rw [er]
    exact a3.grow (hL ci (Or.inr ⟨i, hi, a2⟩)).1 hnn hl g (by rcases hi01 with e | e <;> subst e <;> omega)
/-- a refused text -/
theorem refused (h : InvS T I J P x nn c Iz Jz z N n u tn LT LP d na v) (hnn : x + 224 ≤ nn) (hn' : nn ≤ nn') (g : Gw x nn (x + 12) T T' I I' P P') (hx9 : I' x 9 = I x 9) (hx1 : I' x 1 = 0) (hJ : ∀ q, q < nn → J' q = J q) (hz : ∀ q, 1 ≤ q → q ≠ 4 → Iz2 (z + q) = Iz (z + q)) (hz5 : Iz2 z 5 = 0) (hf : I' (x + 2) 0 = Iz2 z 13 ∧ I' (x + 2) 1 = Iz2 z 14) : InvS T' I' J' P' x nn' c Iz2 Jz z N n u tn LT LP d na v := by
  obtain ⟨g1, g2, g3, g4, g5, g6, g7, g8, g9, g10⟩ := h
  have z1 := hz 1 (by omega) (by omega)
  have hp : P' (x + 92) = P (x + 92) := g.2.2 _ (by omega) (by omega) (by omega)
  have hlc : ∀ k, Lc P' x c k → Lc P x c k := fun k hk => by
    rcases hk with hk | ⟨i, hi, hk⟩
    · exact Or.inl hk
    · exact Or.inr ⟨i, hi, by rw [← hp]; exact hk⟩
  have pk : ∀ k, Lc P x c k → P' k = P k := fun k hk => by
    have := (g1 k hk).1
    exact g.2.2 k (by have := this.2.1; omega) (by have := this.1; omega) (by have := this.1; omega)
  refine ⟨fun k hk => ?_, ?_, ?_, trays_gw g4 hnn (fun q h1 h2 => g.2.1 q (by omega) (by omega) (by omega) (by omega) (by omega)) hJ (hz 18 (by omega) (by omega)) (hz 19 (by omega) (by omega)), ⟨0, by omega, hx1, hz5, fun k hk => by omega⟩, hf, imgs_gw (by omega) g1 g7 hnn g (hz 2 (by omega) (by omega)) (fun k _ => by rw [z1]), by rw [hx9]; exact g8, g9, g10⟩
  · have hk := hlc k hk
    obtain ⟨⟨a1, a2, a3⟩, a4⟩ := g1 k hk
    have ek := pk k hk
    refine ⟨⟨a1, by omega, fun w hw => ?_⟩, fun k' hk' => ⟨(a4 k' (hlc k' hk')).1, fun w hw => ?_⟩⟩
    · rw [ek] at hw
      have := a3 w hw
      omega
    · rw [ek] at hw
      exact (a4 k' (hlc k' hk')).2 w hw
  · rw [z1]
    exact g2.grow (g1 c (Or.inl rfl)).1 hnn (by omega) g (by omega)
  · rw [z1]
    exact g3.same (fun q a b => g.2.1 q (by omega) (by omega) (by omega) (by omega) (by omega))
theorem Cst.nxt {a k : Nat} {A : Row} (h : Cst T I P a k A n u tn LT LP N) : Cst T I P a k A n u tn LT LP (N + 1) := by
  obtain ⟨h1, h2, h3, h4, h5, h6, h7, e, h8, h9⟩ := h
  exact ⟨h1, h2, h3, h4, h5, h6, h7, e, by omega, h9⟩
/-- a told court -/
theorem told {sz a e m nq ln : Nat} {b : Nat → Nat} {Iz1 : Nat → Nat → Int32} (h : InvS T I J P x nn c Iz Jz z N n u tn LT LP d na v) (hnn : x + 224 ≤ nn) (hn' : nn ≤ nn') (g : Gw x nn (x + 12) T T' I I' P P') (hx9 : I' x 9 = I x 9) (hx1 : I' x 1 = 0) (hJ : ∀ q, q < nn → J' q = J q) (hz : ∀ q, 1 ≤ q → q ≠ 4 → Iz1 (z + q) = Iz (z + q)) (hz5 : Iz1 z 5 = 0) (hL : LI x z sz b nn (nn', T', I', J', P') Iz1 0 a e m nq ln) : ∃ I2 I3 Iz2 Iz3 Iz4, s_standInOrder 2000 I' (x + 12) nn = some I2 ∧ pa_forget I2 x = some I3 ∧ r_court_141 2000 z (nI sz) 2000 0 (uI (uI Iz1 z 13 0) z 14 (-1)) = some (nI 1297, Iz2) ∧ r_court_168 2000 z (nI sz) 2000 0 Iz2 = some (nI 6, Iz3) ∧ r_evenings 2000 Iz3 z = some Iz4 ∧ Iz4 (z + 1) 0 = uI I3 x 9 (I3 x 9 + 1) nn 3 ∧ CtS T' I (uI I3 x 9 (I3 x 9 + 1)) J J' (uP P' x 3 (some nn)) x nn nn' Iz4 Jz z N v := by
  obtain ⟨g1, g2, g3, g4, g5, g6, g7, g8, g9, g10⟩ := h
  obtain ⟨hk, hp, ⟨b1, b2', b3, b4⟩, hd, ⟨l1, l2⟩, d0, d1⟩ := hL
  obtain ⟨hx5, hc5, hdr5, ht5, hT5⟩ := hk
  have hx5 : isSR T' P' x := hx5
  have hc5 : isCt T' P' nn := hc5
  have hT5 : Tlt T' nn' := hT5
  have b3 : nn + 8 ≤ nn' := b3
  have hp : Ps x z sz b I' Iz1 0 a e m nq := hp
  obtain ⟨hR, np, nt, no, ln', hb, k0, k1, k2, k3⟩ := hd
  have hR : RCt I' nn (Iz1 (z + 4)) := hR
  have k0 : I' nn 0 = nI np := k0
  have k1 : I' nn 1 = nI nt := k1
  -- the reference's row
  obtain ⟨Iz2, c1, c2, c3, c4⟩ := copy_go (z := z) (g1 := nI sz) 1297 0 2000 (uI (uI Iz1 z 13 0) z 14 (-1)) (by omega) (by omega)
  obtain ⟨Iz3, s1, s2, s3, s4⟩ := cspot_go (z := z) (g1 := nI sz) 6 0 2000 Iz2 (by omega) (by omega)
  have r4 : ∀ k, uI (uI Iz1 z 13 0) z 14 (-1) (z + 4) k = Iz1 (z + 4) k := fun k => by rw [uI_row _ _ _ _ _ (by omega), uI_row _ _ _ _ _ (by omega)]
  have rw1 : ∀ k, k < 1297 → ¬ (35 ≤ k ∧ k < 41) → Iz3 (z + 1) k = Iz1 (z + 4) k := fun k h1 h2 => by rw [s3 k (by omega), c2 k (by omega) h1, r4]
  have sp : ∀ p, p < 6 → Iz3 (z + 1) (35 + p) = nI p := fun p hp => s2 p (by omega) hp
  have spe : ∀ p, p < 6 → spo (Iz3 (z + 1)) p = p := fun p hp => by unfold spo; rw [sp p hp, nI_cl (by omega)]
  have wf : Wf (Iz3 (z + 1)) np 0 := by
    refine ⟨hb.1, by rw [rw1 1 (by omega) (by omega), ← hR.1]; exact k0, by rw [rw1 32 (by omega) (by omega)]; exact b2' 32 (by omega) (by omega), Nat.pos_of_ne_zero (by simp), fun p hp => ⟨by rw [spe p (by omega)]; exact hp, by rw [spe p (by omega)]; exact sp p (by omega)⟩, fun p hp q hq e => by rw [spe p (by omega), spe q (by omega)] at e; exact e, fun s hs => ⟨s, hs, spe s (by omega)⟩⟩
  obtain ⟨Iz4, v1, v2, v3⟩ := r_evenings_is wf
  have low : ∀ k, k < 1297 → ¬ (32 ≤ k ∧ k < 65) → Iz4 (z + 1) k = Iz1 (z + 4) k := fun k h1 h2 => by rw [v2, meve_out (by unfold inst; omega), rw1 k h1 (by omega)]
  -- the class's state
  obtain ⟨I1, o1, o2, o3⟩ := order_go (a := x + 12) (c := nn) 6 0 2000 (uI I' (x + 12) 0 (nI np)) (by omega) (by omega) (fun p hp => by omega)
  obtain ⟨I2, t1, t2, t3⟩ := s_again2 (I := I1) (a := x + 12) (c := nn) (n := np) (A := Iz3 (z + 1)) hb.1 (by rw [o3 _ (by omega) (by omega), uI_e]) (fun p hp => ⟨by rw [(o2 p (by omega)).1, sp p (by omega)], by rw [spe p (by omega)]; exact (o2 p (by omega)).2⟩) (fun p hp => by rw [o3 _ (by omega) (by omega), uI_row _ _ _ _ _ (by omega), rw1 _ (by omega) (by omega)]; exact (hR.2.2.2.2.1 p hp).1) (by omega)
  have so : s_standInOrder 2000 I' (x + 12) nn = some I2 := by
    unfold s_standInOrder
    try dsimp only
    rw [k0]
    have o1 : s_standInOrder_10 2000 (x + 12) nn 2000 0 (uI I' (x + 12) 0 (nI np)) = _ := o1
    rw [o1, Option.bind_some]
    try dsimp only
    rw [t1]
    rfl
  have i2 : ∀ q, ¬ (x + 12 ≤ q ∧ q ≤ x + 18) → I2 q = I' q := fun q hq => by rw [t3 q (by omega), o3 q (by omega) (by omega), uI_row _ _ _ _ _ (by omega)]
  have f3 : pa_forget I2 x = some (uI I2 (x + 19) 2 0) := rfl
  have i5 : ∀ q, q ≠ x → ¬ (x + 12 ≤ q ∧ q ≤ x + 19) → uI (uI I2 (x + 19) 2 0) x 9 (uI I2 (x + 19) 2 0 x 9 + 1) q = I' q := fun q h1 h2 => by rw [uI_row _ _ _ _ _ h1, uI_row _ _ _ _ _ (by omega), i2 q (by omega)]
  have e9 : uI I2 (x + 19) 2 0 x 9 = nI v := by rw [uI_row _ _ _ _ _ (by omega), i2 x (by omega), hx9]; exact g8
  have hxn : nn ≠ x := by omega
  have pn : ∀ q, q ≠ x → uP P' x 3 (some nn) q = P' q := fun q hq => uP_n _ _ _ hq
  obtain ⟨LT', LP', m1, m2, m3, m4, m5, m6⟩ := LawD.cr (B := Iz4 (z + 1)) d0 d1 (fun k hk => low k (by omega) (by omega))
  have law8 : ∀ w, P' nn 8 = some w ∨ P' nn 9 = some w → nn + 8 ≤ w ∧ w + 2 ≤ nn' := fun w hw => by
    rcases hw with hw | hw
    · rcases d0 with ⟨_, q2⟩ | ⟨_, w', φ, q2, q3, _⟩
      · have q2 : P' nn 8 = none := q2
        rw [q2] at hw; cases hw
      · have q2 : P' nn 8 = some w' := q2
        rw [q2] at hw
        injection hw with hw
        subst hw
        exact q3
    · rcases d1 with ⟨_, q2⟩ | ⟨_, w', φ, q2, q3, _⟩
      · have q2 : P' nn 9 = none := q2
        rw [q2] at hw; cases hw
      · have q2 : P' nn 9 = some w' := q2
        rw [q2] at hw
        injection hw with hw
        subst hw
        exact q3
  refine ⟨I2, _, Iz2, Iz3, Iz4, so, f3, c1, s1, v1, ?_, np, 2 ^ np - 1, nt, LT', LP', 0, na, hx5.py TX.rf PY.crt, by rw [uP_s, va_up_self], hT5, hn', ?_, fun q h1 h2 => ?_, hJ⟩
  · rw [i5 nn hxn (by omega), low 0 (by omega) (by omega)]
    exact hR.2.2.2.1.symm
  · have hp92 : uP P' x 3 (some nn) (x + 92) = P (x + 92) := by rw [pn _ (by omega)]; exact g.2.2 _ (by omega) (by omega) (by omega)
    have p2n : uP P' x 3 (some nn) nn = P' nn := pn nn hxn
    have old : ∀ k, (∃ i, i < 2 ∧ uP P' x 3 (some nn) (x + 92) i = some k) → Lc P x c k ∧ Cok P x nn k ∧ uP P' x 3 (some nn) k = P k := fun k hk => by
      obtain ⟨i, hi, hk⟩ := hk
      rw [hp92] at hk
      have hl : Lc P x c k := Or.inr ⟨i, hi, hk⟩
      have hC := (g1 k hl).1
      have c1 := hC.1
      have c2 := hC.2.1
      exact ⟨hl, hC, by rw [pn k (by omega)]; exact g.2.2 k (by omega) (by omega) (by omega)⟩
    have cok : ∀ k, Lc (uP P' x 3 (some nn)) x nn k → Cok (uP P' x 3 (some nn)) x nn' k := fun k hk => by
      rcases hk with rfl | hk
      · refine ⟨Or.inr hnn, b3, fun w hw => ?_⟩
        rw [p2n] at hw
        have := law8 w hw
        omega
      · obtain ⟨_, ⟨q1, q2, q3⟩, q4⟩ := old k hk
        refine ⟨q1, by omega, fun w hw => ?_⟩
        rw [q4] at hw
        have := q3 w hw
        omega
    have g67 : Gw x nn (x + 20) T T' I (uI (uI I2 (x + 19) 2 0) x 9 (uI I2 (x + 19) 2 0 x 9 + 1)) P (uP P' x 3 (some nn)) := ⟨g.1, fun q h1 h2 h3 h4 h5 => by rw [i5 q h2 (by omega)]; exact g.2.1 q h1 h2 h3 h4 (by omega), fun q h1 h2 h3 => by rw [pn q h2]; exact g.2.2 q h1 h2 h3⟩
    have hz4 : ∀ q, 2 ≤ q → q ≠ 4 → Iz4 (z + q) = Iz (z + q) := fun q h1 h2 => by rw [v3 _ (by omega), s4 _ (by omega), c4 _ (by omega), uI_row _ _ _ _ _ (by omega), uI_row _ _ _ _ _ (by omega)]; exact hz q (by omega) h2
    have z4 : ∀ k, k ≠ 13 → k ≠ 14 → Iz4 z k = Iz1 z k := fun k h1 h2 => by rw [v3 _ (by omega), s4 _ (by omega), c4 _ (by omega), uI_k _ _ _ _ _ h2, uI_k _ _ _ _ _ h1]
    have hin : ∀ k, 32 ≤ k → k < 65 → inst k ∨ (35 ≤ k ∧ k < 41) := fun k h1 h2 => by unfold inst; omega
    have cmv : ∀ w φ, CLw T' I' w φ → (P' nn 8 = some w ∨ P' nn 9 = some w) → CLw T' (uI (uI I2 (x + 19) 2 0) x 9 (uI I2 (x + 19) 2 0 x 9 + 1)) w φ := fun w φ hc hw => by
      have := law8 w hw
      exact hc.mv rfl (i5 _ (by omega) (by omega))
    refine ⟨fun k hk => ⟨cok k hk, fun k' hk' => ?_⟩, ⟨?_, ?_, m1, m2, ⟨?_, ?_, ?_, m5, m6, ?_, ?_⟩, ?_, ⟨?_, hb.2.1⟩, ?_⟩, ⟨by omega, g3.2.1, ?_, ?_, ?_, fun j hj => by omega⟩, trays_gw g4 hnn (fun q h1 h2 => ?_) hJ (hz4 18 (by omega) (by omega)) (hz4 19 (by omega) (by omega)), ⟨0, by omega, ?_, ?_, fun k hk => by omega⟩, ⟨?_, ?_⟩, ?_, ?_, by omega, by omega⟩
    · rcases hk with rfl | hk
      · rcases hk' with rfl | hk'
        · refine ⟨Or.inl rfl, fun w hw => ?_⟩
          rw [p2n] at hw
          have := law8 w hw
          omega
        · obtain ⟨_, ⟨q1, q2, q3⟩, q4⟩ := old k' hk'
          refine ⟨by omega, fun w hw => ?_⟩
          rw [p2n] at hw
          have := law8 w hw
          omega
      · obtain ⟨ol, ⟨q1, q2, q3⟩, q4⟩ := old k hk
        rcases hk' with rfl | hk'
        · refine ⟨by omega, fun w hw => ?_⟩
          rw [q4] at hw
          have := q3 w hw
          omega
        · obtain ⟨ol', _, _⟩ := old k' hk'
          have := (g1 k ol).2 k' ol'
          refine ⟨this.1, fun w hw => ?_⟩
          rw [q4] at hw
          exact this.2 w hw
    · exact hc5.py hx5 TX.rf PY.crt (fun w e => by rw [p2n] at e; exact (hc5.2.1 w e).py hx5 TX.rf PY.crt) (fun w e => by rw [p2n] at e; exact (hc5.2.2 w e).py hx5 TX.rf PY.crt)
    · rw [v2]
      exact wf.eve
    · have hRr : RCt I' nn (Iz4 (z + 1)) := hR.row (fun k hk => low k (by omega) (by omega))
      have ee : ∀ q, nn ≤ q → q ≤ nn + 4 → uI (uI I2 (x + 19) 2 0) x 9 (uI I2 (x + 19) 2 0 x 9 + 1) q = I' q := fun q h1 h2 => i5 q (by omega) (by omega)
      obtain ⟨y0, y1, y2, y3, y4, y5, y6⟩ := hRr
      have e0 := ee nn (by omega) (by omega)
      exact ⟨by rw [e0]; exact y0, by rw [e0]; exact y1, by rw [e0]; exact y2, by rw [e0]; exact y3, fun p hp => by rw [ee (nn + 1) (by omega) (by omega), ee (nn + 2) (by omega) (by omega)]; exact y4 p hp, fun t ht => by rw [ee (nn + 3) (by omega) (by omega)]; exact y5 t ht, fun q hq => by rw [ee (nn + 4) (by omega) (by omega)]; exact y6 q hq⟩
    · rcases m3 with ⟨q1, q2⟩ | ⟨w, φ, q1, q2, q3⟩
      · exact Or.inl ⟨by rw [p2n]; exact q1, q2⟩
      · exact Or.inr ⟨w, φ, by rw [p2n]; exact q1, cmv w φ q2 (Or.inl q1), q3⟩
    · rcases m4 with ⟨q1, q2⟩ | ⟨w, φ, q1, q2, q3⟩
      · exact Or.inl ⟨by rw [p2n]; exact q1, q2⟩
      · exact Or.inr ⟨w, φ, by rw [p2n]; exact q1, cmv w φ q2 (Or.inr q1), q3⟩
    · unfold lenT
      rw [hc5.1.1 5 (20, 7) rfl]
    · unfold lenT
      rw [hc5.1.1 6 (20, 64) rfl]
    · rw [v2]
      exact t2.same (fun q h1 h2 => by rw [uI_row _ _ _ _ _ (by omega), uI_row _ _ _ _ _ (by omega)])
    · rw [low 2 (by omega) (by omega), ← hR.2.1]
      exact k1
    · refine ⟨0, by omega, ?_, fun p hp => ⟨0, by omega, ?_, ?_, ?_⟩⟩
      · rw [v2]
        unfold meve
        rw [if_neg (by omega), if_pos (by omega)]
        rfl
      · rw [v2, meve_z (k := 53 + p) (by omega) (by omega)]
        rfl
      · rw [v2, meve_z (k := 47 + p) (by omega) (by omega)]
        decide
      · rw [v2, meve_z (k := 47 + p) (by omega) (by omega)]
        decide
    · rw [low 65 (by omega) (by omega)]
      exact b2' 65 (by omega) (by omega)
    · rw [uI_row _ _ _ _ _ (by omega), uI_k _ _ _ _ _ (by decide), i2 _ (by omega), g.2.1 _ (by omega) (by omega) (by omega) (by omega) (by omega)]
      exact g3.2.2.2.1
    · rw [uI_row _ _ _ _ _ (by omega), uI_e]
      rfl
    · rw [i5 q (by omega) (by omega)]
      exact g.2.1 q (by omega) (by omega) (by omega) (by omega) (by omega)
    · rw [uI_k _ _ _ _ _ (by decide), uI_row _ _ _ _ _ (by omega), i2 x (by omega)]
      exact hx1
    · rw [z4 5 (by decide) (by decide)]
      exact hz5
    · rw [i5 _ (by omega) (by omega), v3 _ (by omega), s4 _ (by omega), c4 _ (by omega), uI_k _ _ _ _ _ (by decide), uI_e]
      exact hp.1.2.2.2.2.2.1
    · rw [i5 _ (by omega) (by omega), v3 _ (by omega), s4 _ (by omega), c4 _ (by omega), uI_e]
      exact hp.1.2.2.2.2.2.2
    · have im := imgs_gw (Iz2 := Iz4) (by omega) g1 g7 hnn g67 (hz4 2 (by omega) (by omega)) (fun k hk => by
        rw [v2, meve_out (by unfold inst; omega), s3 k (by omega), c3 k (by omega), uI_row _ _ _ _ _ (by omega), uI_row _ _ _ _ _ (by omega), hz 1 (by omega) (by omega)])
      intro i hi
      rcases im i hi with q | ⟨q1, ci, n1, u1, tn1, LT1, LP1, q2, q3⟩
      · exact Or.inl q
      · exact Or.inr ⟨q1, ci, n1, u1, tn1, LT1, LP1, q2, q3.nxt⟩
    · rw [uI_e, e9, nI_1]
  · rw [i5 q (by omega) (by omega)]
    exact g.2.1 q (by omega) (by omega) (by omega) (by omega) (by omega)
end
