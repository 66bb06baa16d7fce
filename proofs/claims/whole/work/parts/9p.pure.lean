/-! court, on both sides -/
section
variable {T : Nat → Option (Nat × Nat)} {I : Nat → Nat → Int32} {J : Nat → Nat → Int64} {P : Nat → Nat → Option Nat} {x nn c : Nat} {Tz : Nat → Option (Nat × Nat)} {Iz : Nat → Nat → Int32} {Jz : Nat → Nat → Int64} {z N n u tn : Nat} {LT LP : Row → Int32} {d na v : Nat}
theorem court_bad {w : Int32} (h : InvS T I J P x nn c Iz Jz z N n u tn LT LP d na v) (hw : w < 0 ∨ ¬ w ≤ I x 1) : r_court 2000 Tz Iz z w = some (-3, uI Iz z 0 0) := by
  obtain ⟨tp, t1, t2, t3, t4⟩ := h.2.2.2.2.1
  unfold r_court
  try dsimp only
  rw [uI_k _ _ _ _ _ (show 5 ≠ 0 by decide), t3, show r_within (Int32.toInt64 w) 0 (Int32.toInt64 (nI tp)) = b2 (decide ((0 : Int32) ≤ w) && decide (w ≤ nI tp)) from within_i w 0 (nI tp)]
  have hb : (decide ((0 : Int32) ≤ w) && decide (w ≤ nI tp)) = false := by
    rw [t2] at hw
    rcases hw with hw | hw
    · rw [decide_eq_false (show ¬ (0 : Int32) ≤ w from fun cc => by
        have a1 := Int32.le_iff_toInt_le.mp cc
        have a2 := Int32.lt_iff_toInt_lt.mp hw
        omega)]
      rfl
    · rw [decide_eq_false hw, Bool.and_false]
  rw [hb, if_pos (show b2 false = 0 from rfl)]
theorem court_call {w : Int32} {T5 : Nat → Option (Nat × Nat)} {I5 : Nat → Nat → Int32} {J5 : Nat → Nat → Int64} {P5 : Nat → Nat → Option Nat} (hsr : isSR T P x) (hc3 : P x 3 = some c) (hT : Tlt T nn) (hnn : x + 224 ≤ nn) (hlen : lenT Tz (z + 4) = 1297) (h : InvS T I J P x nn c Iz Jz z N n u tn LT LP d na v) (h0 : ¬ w < 0) (h1 : w ≤ I x 1) (hB : Born nn T (rcI (uI I x 1 0) x w) J (uP P (x + 2) 2 (some (x + 1))) T5 I5 J5 P5) : ∃ r res Iz2, rcRest 2000 x nn (nn + 8, T5, I5, J5, uP P5 (x + 2) 8 (some nn)) = some r ∧ (8 + r.2.2.1 ≤ 908 ∧ 112 + r.2.2.2 ≤ 1012) ∧ r_court 2000 Tz Iz z w = some (res, Iz2) ∧ ((r.1 = 0 ∧ res = -30 - r.2.1.2.2.1 (x + 2) 0 ∧ CtF r.2.1.2.1 I r.2.1.2.2.1 J r.2.1.2.2.2.1 r.2.1.2.2.2.2 x nn r.2.1.1 c Iz Iz2 Jz z N n u tn LT LP d na v) ∨ (¬ r.1 = 0 ∧ ∃ I2 I3, s_standInOrder 2000 r.2.1.2.2.1 (x + 12) nn = some I2 ∧ pa_forget I2 x = some I3 ∧ res = uI I3 x 9 (I3 x 9 + 1) nn 3 ∧ CtS r.2.1.2.1 I (uI I3 x 9 (I3 x 9 + 1)) J r.2.1.2.2.2.1 (uP r.2.1.2.2.2.2 x 3 (some nn)) x nn r.2.1.1 Iz2 Jz z N v)) := by
  obtain ⟨tp, t1, t2, t3, t4⟩ := h.2.2.2.2.1
  rw [t2] at h1
  obtain ⟨sz, z1, rfl⟩ := len_of h0 h1 t1
  have hx1 : isSR T (uP P (x + 2) 2 (some (x + 1))) x := hsr.py TX.rf PY.u2
  have h2 : uP P (x + 2) 2 (some (x + 1)) (x + 2) 2 = some (x + 1) := by rw [uP_s, va_up_self]
  have hk := hB.hk hx1 hT h2
  -- the reference, up to its first token
  have hb : (decide ((0 : Int32) ≤ nI sz) && decide (nI sz ≤ nI tp)) = true := by
    rw [decide_eq_true (show (0 : Int32) ≤ nI sz from nI_le (a := 0) (by omega) (by omega)), decide_eq_true h1]
    rfl
  obtain ⟨Iz4, p1, p2, p3⟩ := plain_is hlen 1297 0 2000 (uI (uI (uI (uI (uI Iz z 0 0) z 8 (nI sz)) z 5 0) z 7 0) z 11 0) (by omega) (by omega) (fun i hi => by omega)
  have p1 : r_plain_2 2000 Tz (z + 4) 2000 0 (uI (uI (uI (uI (uI Iz z 0 0) z 8 (nI sz)) z 5 0) z 7 0) z 11 0) = _ := p1
  have zf : ∀ k, Iz4 z k = uI (uI (uI (uI (uI Iz z 0 0) z 8 (nI sz)) z 5 0) z 7 0) z 11 0 z k := fun k => by rw [p3 z (by omega)]
  have zr : ∀ q, 1 ≤ q → q ≠ 4 → Iz4 (z + q) = Iz (z + q) := fun q a b => by rw [p3 _ (by omega), uI_row _ _ _ _ _ (by omega), uI_row _ _ _ _ _ (by omega), uI_row _ _ _ _ _ (by omega), uI_row _ _ _ _ _ (by omega), uI_row _ _ _ _ _ (by omega)]
  -- the class's rows
  have low5 : ∀ q, q < nn → q ≠ x → q ≠ x + 2 → I5 q = I q := fun q a b e => by
    rw [(hB.low a).2.1]
    unfold rcI
    rw [uI_row _ _ _ _ _ e, uI_row _ _ _ _ _ e, uI_row _ _ _ _ _ e, uI_row _ _ _ _ _ e, uI_row _ _ _ _ _ b]
  have x5 : I5 x = uI I x 1 0 x := by
    rw [(hB.low (by omega)).2.1]
    unfold rcI
    rw [uI_row _ _ _ _ _ (by omega), uI_row _ _ _ _ _ (by omega), uI_row _ _ _ _ _ (by omega), uI_row _ _ _ _ _ (by omega)]
  have r5 : I5 (x + 2) = rcI (uI I x 1 0) x (nI sz) (x + 2) := (hB.low (by omega)).2.1
  have q3 : I5 (x + 2) 3 = nI sz := by
    rw [r5]
    unfold rcI
    rw [uI_k _ _ _ _ _ (by decide), uI_k _ _ _ _ _ (by decide), uI_k _ _ _ _ _ (by decide), uI_e, imin_eq]
    by_cases cc : sz = 900
    · subst cc
      rw [if_neg (by decide)]
    · rw [if_neg (show ¬ nI 900 < nI sz from nI_nlt (by omega) (by omega))]
  have q5 : I5 (x + 2) 5 = 0 := by
    rw [r5]
    unfold rcI
    rw [uI_k _ _ _ _ _ (by decide), uI_k _ _ _ _ _ (by decide), uI_e]
  have q0 : I5 (x + 2) 0 = 0 := by
    rw [r5]
    unfold rcI
    rw [uI_k _ _ _ _ _ (by decide), uI_e]
  have q1 : I5 (x + 2) 1 = -1 := by
    rw [r5]
    unfold rcI
    rw [uI_e]
  obtain ⟨b, hbk⟩ : ∃ b : Nat → Nat, ∀ k, k < sz → b k < 256 ∧ Iz (z + 3) k = nI (b k) ∧ I (x + 1) k = sg (b k) := by
    refine ⟨fun k => (Iz (z + 3) k).toNatClampNeg, fun k hk => ?_⟩
    obtain ⟨y, y1, y2, y3⟩ := t4 k (by omega)
    have e : (Iz (z + 3) k).toNatClampNeg = y := by rw [y2]; exact nI_cl (by omega)
    show (Iz (z + 3) k).toNatClampNeg < 256 ∧ Iz (z + 3) k = nI (Iz (z + 3) k).toNatClampNeg ∧ I (x + 1) k = sg (Iz (z + 3) k).toNatClampNeg
    rw [e]
    exact ⟨y1, y2, y3⟩
  have hTx : Txt I5 x Iz4 z sz b := ⟨by omega, fun k hk' => by
    rw [zr 3 (by omega) (by omega), low5 (x + 1) (by omega) (by omega) (by omega)]
    exact hbk k hk', q3, by rw [zf, uI_k _ _ _ _ _ (by decide), uI_k _ _ _ _ _ (by decide), uI_k _ _ _ _ _ (by decide), uI_e]⟩
  have hct := hB.ct
  have pnn : uP P5 (x + 2) 8 (some nn) nn = P5 nn := uP_n _ _ _ (by omega)
  have zero : ∀ k, k < 5 → ∀ i, I5 (nn + k) i = 0 := fun k hk' i => by
    have := (hB.1.2.2 k (by omega)).2.1
    have this : I5 (nn + k) = ivc1 k := this
    rw [this]
    have tb : k = 0 ∨ k = 1 ∨ k = 2 ∨ k = 3 ∨ k = 4 := by omega
    rcases tb with rfl | rfl | rfl | rfl | rfl <;> rfl
  obtain ⟨r, Iz0, Iz1, e1, e2, e3, e4, e5, e6, e7, e8⟩ := text_go (v := nI sz) (Iz := Iz4) hk hTx q5 (by rw [zf, uI_k _ _ _ _ _ (by decide), uI_e]) q0 q1 (by rw [zf, uI_e]) ⟨by omega, Nat.le_refl _⟩ (fun q a1 a2 k => by
    obtain ⟨j, rfl⟩ : ∃ j, q = nn + j := ⟨q - nn, by omega⟩
    exact zero j (by omega) k) p2 ⟨by rw [pnn]; exact hct.2.1, by rw [pnn]; exact hct.2.2⟩
  obtain ⟨rr, ⟨nn', T', I', J', P'⟩, rc, rs⟩ := r
  have e4 : LF x nn (nn + 8, T5, I5, J5, uP P5 (x + 2) 8 (some nn)) (nn', T', I', J', P') := e4
  have e6 : 0 + rc ≤ sz := e6
  have e7 : 0 + rs ≤ sz := e7
  have f1 : ∀ q, q < nn → q ≠ x + 2 → q ≠ x + 3 → I' q = I5 q := e4.1
  have f2 : ∀ q, q < nn → T' q = T5 q ∧ J' q = J5 q ∧ P' q = uP P5 (x + 2) 8 (some nn) q := e4.2.1
  have f3 : nn + 8 ≤ nn' := e4.2.2
  have gw : Gw x nn (x + 12) T T' I I' P P' := ⟨fun q a => by rw [(f2 q a).1, (hB.low a).1], fun q a b' e f _ => by rw [f1 q a e f, low5 q a b' e], fun q a b' e => by rw [(f2 q a).2.2, uP_n _ _ _ e, (hB.low a).2.2.2, uP_n _ _ _ e]⟩
  have hx' : I' x = uI I x 1 0 x := by rw [f1 x (by omega) (by omega) (by omega), x5]
  have hx9 : I' x 9 = I x 9 := by rw [hx', uI_k _ _ _ _ _ (by decide)]
  have hx1' : I' x 1 = 0 := by rw [hx', uI_e]
  have hJ : ∀ q, q < nn → J' q = J q := fun q a => by rw [(f2 q a).2.1, (hB.low a).2.2.1]
  have kk : Hk x nn (nn', T', I', J', P') := rest_keeps hk e1
  obtain ⟨kx, _, _, _, kT⟩ := kk
  have kx : isSR T' P' x := kx
  have kT : Tlt T' nn' := kT
  have px3 : P' x 3 = some c := by rw [(f2 x (by omega)).2.2, uP_n _ _ _ (by omega), (hB.low (by omega)).2.2.2, uP_n _ _ _ (by omega)]; exact hc3
  have zr1 : ∀ q, 1 ≤ q → q ≠ 4 → Iz1 (z + q) = Iz (z + q) := fun q a b' => by rw [e5.1 _ (by omega) (by omega)]; exact zr q a b'
  have z51 : Iz1 z 5 = 0 := by rw [e5.2 5 (by decide) (by decide) (by decide) (by decide) (by decide) (by decide), zf, uI_k _ _ _ _ _ (by decide), uI_k _ _ _ _ _ (by decide), uI_e]
  have ref : ∀ {res : Int32} {Iz2 : Nat → Nat → Int32}, (let I86 := uI Iz1 z 13 (Iz1 z 11); if (I86 z 11) = 0 then (let I103 := uI I86 z 14 (-1); if (I103 z 11) = 0 then ((r_court_141 2000 z (nI sz) 2000 0 I103).bind (fun q106 => let m108 := q106.1; let I109 := q106.2; (r_court_168 2000 z (nI sz) 2000 0 I109).bind (fun q110 => let m112 := q110.1; let I113 := q110.2; (r_evenings 2000 I113 z).bind (fun q114 => let I116 := q114; some ((I116 (z + 1) (Int32.toNatClampNeg 0)), I116))))) else (some (((-30) - (I103 z 11)), I103))) else (let I89 := uI I86 z 14 (I86 z 12); if (I89 z 11) = 0 then ((r_court_141 2000 z (nI sz) 2000 0 I89).bind (fun q92 => let m94 := q92.1; let I95 := q92.2; (r_court_168 2000 z (nI sz) 2000 0 I95).bind (fun q96 => let m98 := q96.1; let I99 := q96.2; (r_evenings 2000 I99 z).bind (fun q100 => let I102 := q100; some ((I102 (z + 1) (Int32.toNatClampNeg 0)), I102))))) else (some (((-30) - (I89 z 11)), I89)))) = some (res, Iz2) → r_court 2000 Tz Iz z (nI sz) = some (res, Iz2) := fun hh => by
    unfold r_court r_plain
    try dsimp only
    rw [uI_k _ _ _ _ _ (show 5 ≠ 0 by decide), t3, show r_within (Int32.toInt64 (nI sz)) 0 (Int32.toInt64 (nI tp)) = b2 (decide ((0 : Int32) ≤ nI sz) && decide (nI sz ≤ nI tp)) from within_i (nI sz) 0 (nI tp), hb, if_neg (show ¬ b2 true = 0 by decide), p1, Option.bind_some]
    try dsimp only
    rw [Option.bind_some]
    try dsimp only
    rw [e2, Option.bind_some]
    exact (e3 _).trans hh
  have z11k : ∀ w, uI Iz1 z 13 w z 11 = Iz1 z 11 := fun w => uI_k _ _ _ _ _ (by decide)
  rcases e8 with ⟨e8, e9⟩ | ⟨e8, a1, en, m1, n1, ln1, e9⟩
  · have e9 : Be x z I' Iz1 := e9
    have ne := e9.ne
    obtain ⟨f, p, b1, b2', b3, b4, b5⟩ := e9
    refine ⟨_, -30 - nI f, uI (uI Iz1 z 13 (nI f)) z 14 (nI p), e1, by show 8 + rc ≤ 908 ∧ 112 + rs ≤ 1012; omega, ref ?_, Or.inl ⟨e8, by show _ = -30 - I' (x + 2) 0; rw [b4], kx, px3, kT, by show nn ≤ nn'; omega, ?_, fun q a b' e' f' => by show I' q = I q; rw [f1 q a e' f', low5 q a b' e'], hJ, ?_⟩⟩
    · try dsimp only
      rw [z11k, if_neg ne, uI_k _ _ _ _ _ (show 12 ≠ 13 by decide), uI_k _ _ _ _ _ (show 11 ≠ 14 by decide), z11k, if_neg ne, b2', b3]
    · refine refused h hnn (by show nn ≤ nn'; omega) gw hx9 hx1' hJ (fun q a b' => ?_) ?_ ⟨?_, ?_⟩
      · rw [uI_row _ _ _ _ _ (by omega), uI_row _ _ _ _ _ (by omega)]
        exact zr1 q a b'
      · rw [uI_k _ _ _ _ _ (by decide), uI_k _ _ _ _ _ (by decide)]
        exact z51
      · rw [uI_k _ _ _ _ _ (by decide), uI_e]
        exact b4
      · rw [uI_e]
        exact b5
    · refine ⟨fun k _ => ?_, ?_, ?_⟩
      · rw [uI_row _ _ _ _ _ (by omega), uI_row _ _ _ _ _ (by omega), zr1 1 (by omega) (by omega)]
      · rw [uI_row _ _ _ _ _ (by omega), uI_row _ _ _ _ _ (by omega), zr1 18 (by omega) (by omega)]
      · rw [uI_row _ _ _ _ _ (by omega), uI_row _ _ _ _ _ (by omega), zr1 19 (by omega) (by omega)]
  · have e9 : LI x z sz b nn (nn', T', I', J', P') Iz1 0 a1 en m1 n1 ln1 := e9
    have ok : Iz1 z 11 = 0 := e9.2.1.ok
    obtain ⟨I2, I3, Iz5, Iz6, Iz7, o1, o2, o3, o4, o5, o6, o7⟩ := told h hnn (by omega) gw hx9 hx1' hJ zr1 z51 e9
    refine ⟨_, uI I3 x 9 (I3 x 9 + 1) nn 3, Iz7, e1, by show 8 + rc ≤ 908 ∧ 112 + rs ≤ 1012; omega, ref ?_, Or.inr ⟨by show ¬ rr = 0; rw [show rr = 1 from e8]; decide, I2, I3, o1, o2, rfl, o7⟩⟩
    try dsimp only
    rw [z11k, ok, if_pos rfl, uI_k _ _ _ _ _ (show 11 ≠ 14 by decide), uI_k _ _ _ _ _ (show 11 ≠ 13 by decide), ok, if_pos rfl, o3, Option.bind_some]
    try dsimp only
    rw [o4, Option.bind_some]
    try dsimp only
    rw [o5, Option.bind_some, ← o6]
    rfl
end
