/-! what was asked last -/
theorem knows_is (I : Nat → Nat → Int32) (mm : Nat) (v1 v2 v3 v4 v5 : Int32) : ∃ I', ((mm_knows I mm v1 v2 v3 v4 v5 = some (1, I') ∧ I (mm + 1) 0 = v1 ∧ I (mm + 1) 1 = v2 ∧ I (mm + 1) 2 = v3 ∧ I (mm + 1) 3 = v4 ∧ I (mm + 1) 4 = v5) ∨ mm_knows I mm v1 v2 v3 v4 v5 = some (0, I')) ∧ (∀ q, q ≠ mm + 1 → I' q = I q) ∧ I' (mm + 1) 0 = v1 ∧ I' (mm + 1) 1 = v2 ∧ I' (mm + 1) 2 = v3 ∧ I' (mm + 1) 3 = v4 ∧ I' (mm + 1) 4 = v5 := by
  have g : ∀ k : Nat, True := fun _ => trivial
  refine ⟨uI (uI (uI (uI (uI I (mm + 1) 0 v1) (mm + 1) 1 v2) (mm + 1) 2 v3) (mm + 1) 3 v4) (mm + 1) 4 v5, ?_, fun q hq => ?_, ?_, ?_, ?_, ?_, ?_⟩
  · unfold mm_knows
    rw [show Int32.toNatClampNeg 0 = 0 from rfl, show Int32.toNatClampNeg 1 = 1 from rfl, show Int32.toNatClampNeg 2 = 2 from rfl, show Int32.toNatClampNeg 3 = 3 from rfl, show Int32.toNatClampNeg 4 = 4 from rfl]
    by_cases h1 : I (mm + 1) 0 = v1
    · rw [if_pos h1]
      by_cases h2 : I (mm + 1) 1 = v2
      · rw [if_pos h2]
        by_cases h3 : I (mm + 1) 2 = v3
        · rw [if_pos h3]
          by_cases h4 : I (mm + 1) 3 = v4
          · rw [if_pos h4]
            by_cases h5 : I (mm + 1) 4 = v5
            · rw [if_pos h5]
              exact Or.inl ⟨rfl, h1, h2, h3, h4, h5⟩
            · rw [if_neg h5]
              exact Or.inr rfl
          · rw [if_neg h4]
            exact Or.inr rfl
        · rw [if_neg h3]
          exact Or.inr rfl
      · rw [if_neg h2]
        exact Or.inr rfl
    · rw [if_neg h1]
      exact Or.inr rfl
  · rw [uI_row _ _ _ _ _ hq, uI_row _ _ _ _ _ hq, uI_row _ _ _ _ _ hq, uI_row _ _ _ _ _ hq, uI_row _ _ _ _ _ hq]
  · rw [uI_k _ _ _ _ _ (by decide), uI_k _ _ _ _ _ (by decide), uI_k _ _ _ _ _ (by decide), uI_k _ _ _ _ _ (by decide), uI_e]
  · rw [uI_k _ _ _ _ _ (by decide), uI_k _ _ _ _ _ (by decide), uI_k _ _ _ _ _ (by decide), uI_e]
  · rw [uI_k _ _ _ _ _ (by decide), uI_k _ _ _ _ _ (by decide), uI_e]
  · rw [uI_k _ _ _ _ _ (by decide), uI_e]
  · rw [uI_e]
/-- the rows behind each kept answer -/
def KMr (I I2 : Nat → Nat → Int32) (x : Nat) : Prop := I2 (x + 111) = I (x + 111) ∧ I2 (x + 112) = I (x + 112) ∧ I2 (x + 108) 4 = I (x + 108) 4
def KMw (I I2 : Nat → Nat → Int32) (x : Nat) : Prop := I2 (x + 116) = I (x + 116) ∧ I2 (x + 117) = I (x + 117) ∧ I2 (x + 114) 2 = I (x + 114) 2
def KMm (I I2 : Nat → Nat → Int32) (x : Nat) : Prop := I2 (x + 216) = I (x + 216) ∧ I2 (x + 217) = I (x + 217) ∧ I2 (x + 214) 3 = I (x + 214) 3
def KMc (I I2 : Nat → Nat → Int32) (x : Nat) : Prop := I2 (x + 221) = I (x + 221)
theorem KeepM.parts {I I2 : Nat → Nat → Int32} {x : Nat} (h : KeepM I I2 x) : KMr I I2 x ∧ KMw I I2 x ∧ KMm I I2 x ∧ KMc I I2 x := by
  obtain ⟨h1, h2, h3, h4, h5, h6, h7, h8, h9, h10⟩ := h
  exact ⟨⟨h1, h2, h8⟩, ⟨h3, h4, h9⟩, ⟨h5, h6, h10⟩, h7⟩
/-- what the reference would answer now, beside what the class has kept -/
def AnsW (I : Nat → Nat → Int32) (x : Nat) (Iz : Nat → Nat → Int32) (z : Nat) (p q t b : Int32) : Prop := (∃ Iz2, r_laysRests 2000 Iz z p q t b (-1) = some (I (x + 114) 2, Iz2) ∧ KeepZ Iz Iz2 z) ∧ ∀ k : Int32, 0 ≤ k → ∃ w Iz2, r_laysRests 2000 Iz z p q t b k = some (w, Iz2) ∧ KeepZ Iz Iz2 z ∧ ((I (x + 114) 2 ≤ k ∧ w = -1) ∨ (¬ I (x + 114) 2 ≤ k ∧ vp_in k 441 ∧ w = I (x + 117) (Int32.toNatClampNeg k)))
def Mwai (I : Nat → Nat → Int32) (x : Nat) (Iz : Nat → Nat → Int32) (z v : Nat) : Prop := ∃ k, k ≤ v ∧ I (x + 116) 0 = nI k ∧ (k = v → ∀ Iz', KeepY Iz Iz' z → AnsW I x Iz' z (I (x + 116) 1) (I (x + 116) 2) (I (x + 116) 3) (I (x + 116) 4))
theorem Mwai.keep {I I2 : Nat → Nat → Int32} {x : Nat} {Iz Iz2 : Nat → Nat → Int32} {z v : Nat} (h : Mwai I x Iz z v) (hx : KMw I I2 x) (hz : KeepY Iz Iz2 z) : Mwai I2 x Iz2 z v := by
  obtain ⟨k, h1, h2, h3⟩ := h
  obtain ⟨x1, x2, x3⟩ := hx
  refine ⟨k, h1, by rw [x1]; exact h2, fun e Iz' hk => ?_⟩
  have := h3 e Iz' (hz.tr hk)
  unfold AnsW at *
  rw [x1, x2, x3]
  exact this
theorem Mwai.past {I I2 : Nat → Nat → Int32} {x : Nat} {Iz Iz2 : Nat → Nat → Int32} {z v : Nat} (h : Mwai I x Iz z v) (hx : I2 (x + 116) 0 = I (x + 116) 0) : Mwai I2 x Iz2 z (v + 1) := by
  obtain ⟨k, h1, h2, h3⟩ := h
  exact ⟨k, by omega, hx.trans h2, fun e => by omega⟩
section
variable {T : Nat → Option (Nat × Nat)} {I : Nat → Nat → Int32} {J : Nat → Nat → Int64} {P : Nat → Nat → Option Nat} {x nn c : Nat} {Iz : Nat → Nat → Int32} {Jz : Nat → Nat → Int64} {z N n u tn : Nat} {LT LP : Row → Int32} {d na v e : Nat}
/-- all of waiting, on both sides -/
theorem wfind_is (h : InvK T I J P x nn c Iz Jz z N n u tn LT LP v) (hN : N < 600) {p q t m : Nat} (hp : p < n) (hq : q < n) (hpq : p ≠ q) (hm : m ≤ 20) : ∃ I2, wa_find 2000 T I P x c (x + 12) (nI p) (nI q) (nI t) (nI m) = some I2 ∧ Wx I I2 x c ∧ AnsW I2 x Iz z (nI p) (nI q) (nI t) (nI m) := by
  have hcx := (h.1 c (Or.inl rfl)).1.1
  have hn := h.n6
  obtain ⟨I1, c1, R1, q1⟩ := h.rs.copy (a := x + 120) hn h.wf.2.2.2.2 (by omega)
  unfold wa_find
  rw [c1, Option.bind_some]
  try dsimp only
  rw [pair_tab p (by omega) q (by omega), chk_nI (show p < 6 by omega) (by decide), chk_nI (show q < 6 by omega) (by decide), nI_cl (show p < 2147483648 by omega), nI_cl (show q < 2147483648 by omega)]
  generalize hI3 : uI (uI (uI I1 (x + 120) 1 (nI (2 ^ p ||| 2 ^ q))) (x + 120 + 2) p 0) (x + 120 + 2) q 0 = I3
  have o3 : ∀ r, r ≠ x + 120 → r ≠ x + 122 → I3 r = I1 r := fun r a1 a2 => by rw [← hI3, uI_row _ _ _ _ _ (by omega), uI_row _ _ _ _ _ (by omega), uI_row _ _ _ _ _ (by omega)]
  have x3 : Wx I I3 x c := fun r a1 a2 a3 a4 a5 => by rw [o3 r (by omega) (by omega), q1 r (by omega)]
  have R3 : RS I3 (x + 120) n (mpair (Iz (z + 1)) p q) true := by
    obtain ⟨r0, r1, r2, r3, r4⟩ := R1
    have e0 : ∀ k, k ≠ 1 → I3 (x + 120) k = I1 (x + 120) k := fun k hk => by rw [← hI3, uI_row _ _ _ _ _ (by omega), uI_row _ _ _ _ _ (by omega), uI_k _ _ _ _ _ hk]
    refine ⟨by rw [e0 _ (by decide)]; exact r0, ?_, by rw [e0 _ (by decide), mpair_o (by omega) (by omega) (by omega)]; exact r2, by rw [e0 _ (by decide), mpair_o (by omega) (by omega) (by omega)]; exact r3, fun r hr => ?_⟩
    · rw [mpair_32, ← hI3, uI_row _ _ _ _ _ (by omega), uI_row _ _ _ _ _ (by omega), uI_e]
    · obtain ⟨s1, s2, s3, s4, s5, s6⟩ := r4 r hr
      rw [o3 (x + 120 + 1) (by omega) (by omega), o3 (x + 120 + 3) (by omega) (by omega), o3 (x + 120 + 4) (by omega) (by omega), o3 (x + 120 + 5) (by omega) (by omega), o3 (x + 120 + 6) (by omega) (by omega), mpair_o (k := 41 + r) (by omega) (by omega) (by omega), mpair_o (k := 59 + r) (by omega) (by omega) (by omega), mpair_o (k := 53 + r) (by omega) (by omega) (by omega), mpair_o (k := 35 + r) (by omega) (by omega) (by omega), spo_out (A := Iz (z + 1)) (p := r) (mpair_o (by omega) (by omega) (by omega))]
      refine ⟨s1, fun hw => ?_, s3, s4, s5, s6⟩
      rw [← hI3]
      by_cases e2 : r = q
      · subst e2
        rw [uI_e, mpair_q]
      · rw [uI_k _ _ _ _ _ e2]
        by_cases e1 : r = p
        · subst e1
          rw [uI_e, mpair_p]
        · rw [uI_k _ _ _ _ _ e1, uI_row _ _ _ _ _ (by omega), mpair_o (by omega) (by omega) (by omega)]
          exact s2 hw
  have key : ∀ g5 : Int32, ∃ Iz0 I4 Iz4, r_keeps 2000 Iz z = some Iz0 ∧ wa_find_47 2000 T P x c (x + 12) (nI p) (nI q) (nI t) (nI m) 2000 0 I3 = some (nI (m + 1), I4) ∧ r_laysRests_7 2000 z (nI p) (nI q) (nI t) (nI m) g5 2000 0 Iz0 = some (nI (m + 1), Iz4) ∧ Wx I I4 x c ∧ Kw Iz Iz4 z ∧ ∀ a' b', a' ≤ m → b' ≤ m → Lay I4 x Iz4 z (21 * a' + b') := fun g5 => by
    obtain ⟨Iz0, f1, f2, f3⟩ := r_keeps_is (I := Iz) (z := z)
    have K0 : Kw Iz Iz0 z := ⟨f2, f3 _ (by omega), fun q a0 a5 a6 a7 a8 a9 _ _ => f3 q a7, fun k hk => by rw [f3 _ (by omega)]⟩
    obtain ⟨I4, Iz4, t1, t2, t3, t4, t5⟩ := tab_out (t := t) (g5 := g5) h hN hp hq hpq hm (m + 1) 0 2000 2000 I3 Iz0 (by omega) (by omega) (by omega) x3 R3 K0 (fun a' b' h1 h2 h3 => by omega)
    exact ⟨Iz0, I4, Iz4, f1, t1, t2, t3, t4, t5⟩
  obtain ⟨Iz0, I4, Iz4, k0, t1, t2, t3, t4, t5⟩ := key (-1)
  rw [t1, Option.bind_some]
  try dsimp only
  have l5 : ∀ a' b', a' ≤ m → b' ≤ m → Lay (uI I4 (x + 114) 2 0) x Iz4 z (21 * a' + b') := fun a' b' h1 h2 => by
    unfold Lay
    rw [uI_row _ _ _ _ _ (by omega), uI_row _ _ _ _ _ (by omega)]
    exact t5 a' b' h1 h2
  obtain ⟨I5, s, f1, f2, f3, f4, f5, f6, f7⟩ := rst_out (c := c) (b := x + 12) (p := nI p) (q := nI q) (t := nI t) hm (m + 1) 0 2000 2000 0 (uI I4 (x + 114) 2 0) (by omega) (by omega) (by omega) (by omega) (uI_e _ _ _ _) l5
  have f1 : wa_find_112 2000 x c (x + 12) (nI p) (nI q) (nI t) (nI m) 2000 0 (uI I4 (x + 114) 2 0) = _ := f1
  rw [f1, Option.bind_some]
  have hs : s ≤ 441 := by omega
  have ans : ∀ kk : Int32, ∃ Iz5, Kw Iz Iz5 z ∧ r_laysRests 2000 Iz z (nI p) (nI q) (nI t) (nI m) kk = ((r_laysRests_53 2000 Iz5 z (nI p) (nI q) (nI t) (nI m) kk 2000 0 0).bind (fun q28 => match q28 with | .inl r0 => some r0 | .inr q0 => let m30 := q0.1; let m31 := q0.2; if 0 ≤ kk then (some ((-1), Iz5)) else (some (m30, Iz5)))) ∧ ((∃ i, i < s ∧ kk = nI i ∧ r_laysRests_53 2000 Iz5 z (nI p) (nI q) (nI t) (nI m) kk 2000 0 0 = some (.inl (I5 (x + 117) i, Iz5))) ∨ ((∀ i, i < s → kk ≠ nI i) ∧ r_laysRests_53 2000 Iz5 z (nI p) (nI q) (nI t) (nI m) kk 2000 0 0 = some (.inr (nI s, nI (m + 1))))) := fun kk => by
    obtain ⟨Iz0', I4', Iz4', k0', t1', t2', t3', t4', t5'⟩ := key kk
    rw [t1] at t1'
    have e4 : I4 = I4' := by
      injection t1' with t1'
      injection t1'
    subst e4
    have l5' : ∀ a' b', a' ≤ m → b' ≤ m → Lay (uI I4 (x + 114) 2 0) x Iz4' z (21 * a' + b') := fun a' b' h1 h2 => by
      unfold Lay
      rw [uI_row _ _ _ _ _ (by omega), uI_row _ _ _ _ _ (by omega)]
      exact t5' a' b' h1 h2
    obtain ⟨I5', s', f1', -, f3', f4', -, -, f7'⟩ := rst_out (c := c) (b := x + 12) (p := nI p) (q := nI q) (t := nI t) hm (m + 1) 0 2000 2000 0 (uI I4 (x + 114) 2 0) (by omega) (by omega) (by omega) (by omega) (uI_e _ _ _ _) l5'
    have f1' : wa_find_112 2000 x c (x + 12) (nI p) (nI q) (nI t) (nI m) 2000 0 (uI I4 (x + 114) 2 0) = _ := f1'
    rw [f1] at f1'
    have e5 : I5 = I5' := by
      injection f1' with f1'
      injection f1'
    subst e5
    have es : s = s' := by
      rw [f4] at f4'
      exact (nI_eq (by omega) (by omega)).mp f4'
    subst es
    refine ⟨Iz4', t4', ?_, ?_⟩
    · unfold r_laysRests
      rw [k0', Option.bind_some]
      try dsimp only
      rw [t2', Option.bind_some]
      rfl
    · rcases f7' kk with ⟨i, -, b2, b3, b4⟩ | ⟨b1, b2⟩
      · exact Or.inl ⟨i, b2, b3, b4⟩
      · exact Or.inr ⟨fun i hi => b1 i (by omega) hi, b2⟩
  refine ⟨I5, rfl, fun r a1 a2 a3 a4 a5 => by rw [f6 r a2 (by omega), uI_row _ _ _ _ _ a2, t3 r a1 a2 a3 a4 a5], ?_, fun k hk => ?_⟩
  · obtain ⟨Iz5, K5, e1, e2⟩ := ans (-1)
    rcases e2 with ⟨i, b1, b2, b3⟩ | ⟨b1, b2⟩
    · exfalso
      have e1 := i32_eq.mp b2
      rw [nI_toInt (by omega)] at e1
      have : (-1 : Int32).toInt = -1 := rfl
      omega
    · rw [e1, b2, f4]
      exact ⟨Iz5, rfl, K5.keep⟩
  · obtain ⟨Iz5, K5, e1, e2⟩ := ans k
    rcases e2 with ⟨i, b1, b2, b3⟩ | ⟨b1, b2⟩
    · rw [e1, b3]
      refine ⟨_, _, rfl, K5.keep, Or.inr ?_⟩
      rw [f4, b2, nI_cl (by omega)]
      exact ⟨nI_ge b1 (by omega), vp_in_nI (by omega) (by decide), rfl⟩
    · rw [e1, b2, Option.bind_some]
      try dsimp only
      rw [if_pos hk]
      refine ⟨_, _, rfl, K5.keep, Or.inl ⟨?_, rfl⟩⟩
      rw [f4]
      rcases arg_cases k s (by omega) with hk2 | ⟨i, hi, rfl⟩
      · rcases hk2 with hk2 | hk2
        · exact absurd hk (Int32.not_le.mpr hk2)
        · exact hk2
      · exact absurd rfl (b1 i hi)
/-- the class's waiting, kept or anew -/
theorem findRests_is (hsr : isSR T P x) (h : InvK T I J P x nn c Iz Jz z N n u tn LT LP v) (hM : Mwai I x Iz z v) (hN : N < 600) {p q t m : Nat} (hp : p < n) (hq : q < n) (hpq : p ≠ q) (hm : m ≤ 20) : ∃ I2, x_findRests 2000 T I P x c (nI p) (nI q) (nI t) (nI m) = some I2 ∧ (∀ r, ¬ (x + 114 ≤ r ∧ r ≤ x + 133) → r ≠ c + 5 → r ≠ c + 6 → r ≠ c + 7 → I2 r = I r) ∧ Mwai I2 x Iz z v ∧ ∀ Iz', KeepY Iz Iz' z → AnsW I2 x Iz' z (nI p) (nI q) (nI t) (nI m) := by
  have hcx := (h.1 c (Or.inl rfl)).1.1
  have h9 : I x 9 = nI v := h.v9.1
  have hv : v ≤ N + 1 := h.v9.2
  unfold x_findRests
  rw [h9]
  obtain ⟨I1, e1, e2, m0, m1, m2, m3, m4⟩ := knows_is I (x + 115) (nI v) (nI p) (nI q) (nI t) (nI m)
  obtain ⟨k, k1, k2, k3⟩ := hM
  rcases e1 with ⟨e1, n0, n1, n2, n3, n4⟩ | e1
  · rw [e1, Option.bind_some]
    try dsimp only
    rw [if_neg (show ¬ (1 : Int32) = 0 by decide)]
    have ek : k = v := by
      have n0 : I (x + 116) 0 = nI v := n0
      rw [k2] at n0
      exact (nI_eq (by omega) (by omega)).mp n0
    have hA : ∀ Iz', KeepY Iz Iz' z → AnsW I1 x Iz' z (nI p) (nI q) (nI t) (nI m) := fun Iz' hk => by
      have := k3 ek Iz' hk
      unfold AnsW at *
      rw [show I (x + 116) 1 = nI p from n1, show I (x + 116) 2 = nI q from n2, show I (x + 116) 3 = nI t from n3, show I (x + 116) 4 = nI m from n4] at this
      rw [e2 _ (by omega), e2 _ (by omega)]
      exact this
    refine ⟨I1, rfl, fun r a1 a2 a3 a4 => e2 r (by omega), ⟨v, Nat.le_refl _, m0, fun _ Iz' hk => ?_⟩, hA⟩
    rw [show I1 (x + 116) 1 = nI p from m1, show I1 (x + 116) 2 = nI q from m2, show I1 (x + 116) 3 = nI t from m3, show I1 (x + 116) 4 = nI m from m4]
    exact hA Iz' hk
  · rw [e1, Option.bind_some]
    try dsimp only
    rw [if_pos rfl]
    have hX : KeepX I I1 x c := KeepX.of (fun q hq => e2 q (fun cc => hq (by unfold Scr; omega))) (e2 _ (by omega)) (e2 _ (by omega))
    have hI1 : ∀ Iz', KeepY Iz Iz' z → InvK T I1 J P x nn c Iz' Jz z N n u tn LT LP v := fun Iz' hk => h.keep hsr hX (fun _ _ => rfl) (fun _ _ _ _ => rfl) hk rfl
    obtain ⟨I2, w1, w2, -⟩ := wfind_is (t := t) (hI1 Iz KeepY.rf) hN hp hq hpq hm
    rw [w1, Option.bind_some]
    have hA : ∀ Iz', KeepY Iz Iz' z → AnsW I2 x Iz' z (nI p) (nI q) (nI t) (nI m) := fun Iz' hk => by
      obtain ⟨I2', w1', -, w3'⟩ := wfind_is (t := t) (hI1 Iz' hk) hN hp hq hpq hm
      rw [w1] at w1'
      have e : I2 = I2' := by injection w1'
      rw [e]
      exact w3'
    have e116 : I2 (x + 116) = I1 (x + 116) := w2 _ (by omega) (by omega) (by omega) (by omega) (by omega)
    refine ⟨I2, rfl, fun r a1 a2 a3 a4 => by rw [w2 r (by omega) (by omega) a2 a3 a4, e2 r (by omega)], ⟨v, Nat.le_refl _, by rw [e116]; exact m0, fun _ Iz' hk => ?_⟩, hA⟩
    rw [e116, show I1 (x + 116) 1 = nI p from m1, show I1 (x + 116) 2 = nI q from m2, show I1 (x + 116) 3 = nI t from m3, show I1 (x + 116) 4 = nI m from m4]
    exact hA Iz' hk
/-- a question that keeps its answer in the rows of waiting -/
def Unw (I I2 : Nat → Nat → Int32) (x c : Nat) (Iz Iz2 : Nat → Nat → Int32) (z v : Nat) : Prop := KeepX I I2 x c ∧ KeepZ Iz Iz2 z ∧ KMr I I2 x ∧ KMm I I2 x ∧ KMc I I2 x ∧ Mwai I2 x Iz2 z v
theorem unw_of {I2 Iz2 : Nat → Nat → Int32} (hcx : c = x + 4 ∨ x + 224 ≤ c) (hx : ∀ r, ¬ (x + 114 ≤ r ∧ r ≤ x + 133) → r ≠ c + 5 → r ≠ c + 6 → r ≠ c + 7 → I2 r = I r) (hz : KeepZ Iz Iz2 z) (hM : Mwai I2 x Iz z v) : Unw I I2 x c Iz Iz2 z v := by
  have g : ∀ r, ¬ (x + 114 ≤ r ∧ r ≤ x + 133) → x + 12 ≤ r → r < x + 224 → I2 r = I r := fun r a1 a2 a3 => hx r a1 (by omega) (by omega) (by omega)
  refine ⟨KeepX.of (fun q hq => ?_) (hx _ (by omega) (by omega) (by omega) (by omega)) (hx _ (by omega) (by omega) (by omega) (by omega)), hz, ⟨g _ (by omega) (by omega) (by omega), g _ (by omega) (by omega) (by omega), by rw [g _ (by omega) (by omega) (by omega)]⟩, ⟨g _ (by omega) (by omega) (by omega), g _ (by omega) (by omega) (by omega), by rw [g _ (by omega) (by omega) (by omega)]⟩, g _ (by omega) (by omega) (by omega), hM.keep ⟨rfl, rfl, rfl⟩ hz.y⟩
  unfold Scr at hq
  exact hx q (by omega) (by omega) (by omega) (by omega)
theorem rests_call (hsr : isSR T P x) (h : InvS T I J P x nn c Iz Jz z N n u tn LT LP d na v) (hM : Mwai I x Iz z v) (hN : N < 600) (a b t w : Int32) : ∃ r I2 Iz2, x_rests 2000 T I P x c a b t w = some (r, I2) ∧ r_rests 2000 Iz z a b t w = some (r, Iz2) ∧ Unw I I2 x c Iz Iz2 z v := by
  have hcx := (h.1 c (Or.inl rfl)).1.1
  obtain ⟨r, e1, e2, e3⟩ := waitCode_is h a b t w
  unfold x_rests r_rests
  try dsimp only
  rw [e1, e2, Option.bind_some]
  try dsimp only
  by_cases hr : r = 0
  · rw [if_pos hr, if_pos hr]
    obtain ⟨p, q, k, m, rfl, rfl, rfl, rfl, hp, hq, hpq, hk, hm, -, -⟩ := e3 hr
    obtain ⟨I2, f1, f2, f3, f4⟩ := findRests_is (t := k) hsr h.k hM hN hp hq hpq hm
    obtain ⟨⟨Iz2, g1, g2⟩, -⟩ := f4 _ KeepZ.thr.y
    rw [f1, g1, Option.bind_some, Option.bind_some]
    exact ⟨_, _, _, rfl, rfl, unw_of hcx f2 (KeepZ.thr.tr g2) f3⟩
  · rw [if_neg hr, if_neg hr]
    exact ⟨_, _, _, rfl, rfl, unw_of hcx (fun _ _ _ _ _ => rfl) KeepZ.thr hM⟩
theorem rest_call (hsr : isSR T P x) (h : InvS T I J P x nn c Iz Jz z N n u tn LT LP d na v) (hM : Mwai I x Iz z v) (hN : N < 600) (a b t w i : Int32) : ∃ r I2 Iz2, x_rest 2000 T I P x c a b t w i = some (r, I2) ∧ r_rest 2000 Iz z a b t w i = some (r, Iz2) ∧ Unw I I2 x c Iz Iz2 z v := by
  have hcx := (h.1 c (Or.inl rfl)).1.1
  obtain ⟨r, e1, e2, e3⟩ := waitCode_is h a b t w
  unfold x_rest r_rest
  try dsimp only
  rw [e1, e2, Option.bind_some]
  try dsimp only
  by_cases hr : r = 0
  · rw [if_pos hr, if_pos hr]
    by_cases hi : 0 ≤ i
    · rw [if_pos hi, if_pos hi]
      obtain ⟨p, q, k, m, rfl, rfl, rfl, rfl, hp, hq, hpq, hk, hm, -, -⟩ := e3 hr
      obtain ⟨I2, f1, f2, f3, f4⟩ := findRests_is (t := k) hsr h.k hM hN hp hq hpq hm
      obtain ⟨-, f4⟩ := f4 _ KeepZ.thr.y
      obtain ⟨y, Iz2, g1, g2, g3⟩ := f4 i hi
      rw [f1, g1, Option.bind_some, Option.bind_some]
      try dsimp only
      rcases g3 with ⟨b1, b2⟩ | ⟨b1, b2, b3⟩
      · rw [if_pos b1, b2]
        exact ⟨_, _, _, rfl, rfl, unw_of hcx f2 (KeepZ.thr.tr g2) f3⟩
      · rw [if_neg b1, chk_in b2, b3]
        exact ⟨_, _, _, rfl, rfl, unw_of hcx f2 (KeepZ.thr.tr g2) f3⟩
    · rw [if_neg hi, if_neg hi]
      exact ⟨_, _, _, rfl, rfl, unw_of hcx (fun _ _ _ _ _ => rfl) KeepZ.thr hM⟩
  · rw [if_neg hr, if_neg hr]
    exact ⟨_, _, _, rfl, rfl, unw_of hcx (fun _ _ _ _ _ => rfl) KeepZ.thr hM⟩
end
