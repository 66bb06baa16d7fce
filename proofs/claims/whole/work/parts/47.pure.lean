/-! play, sit, change, wine, evening, undo -/
theorem mpst_up {ls pn : Nat → Int32} {p u : Nat} {A : Row} (hu : u < 64) (hp : p < 6) {q : Nat} (hq : q < 6) (h : ub (mpst ls pn p u A).1 q = true) : ub u q = true := by
  by_cases e : q = p
  · subst e
    unfold mpst at h
    by_cases c : ub u q = true
    · exact c
    · rw [if_neg c] at h
      exact h
  · rw [mpst_ub hu hp hq e] at h
    exact h
theorem mplp_up {ls pn : Nat → Int32} {u : Nat} {A : Row} (hu : u < 64) {q : Nat} (hq : q < 6) : ∀ j, j ≤ 6 → ub (mplp ls pn j u A).1 q = true → ub u q = true
  | 0, _, h => h
  | j + 1, hj, h => by
    have hl := mplp_le (ls := ls) (pn := pn) (A := A) hu j (by omega)
    exact mplp_up hu hq j (by omega) (mpst_up (by omega) (by omega) hq h)
/-- who has sat down keeps when; who sits down now does so by the count as it stands -/
theorem mplp_sat {ls pn : Nat → Int32} {u : Nat} {A : Row} (hu : u < 64) {q : Nat} (hq : q < 6) : ∀ j, j ≤ 6 → (mplp ls pn j u A).2 (53 + q) = if ub u q = true ∧ ub (mplp ls pn j u A).1 q = false then A 34 else A (53 + q)
  | 0, _ => by
    show A (53 + q) = _
    rw [if_neg (fun c => ?_)]
    have h2 : ub u q = false := c.2
    rw [c.1] at h2
    cases h2
  | j + 1, hj => by
    have ih := mplp_sat (ls := ls) (pn := pn) (A := A) hu hq j (by omega)
    have hl := mplp_le (ls := ls) (pn := pn) (A := A) hu j (by omega)
    have hub := mplp_ub (ls := ls) (pn := pn) (A := A) hu j (by omega) j (Nat.le_refl _) (by omega)
    have h34 : (mplp ls pn j u A).2 34 = A 34 := mplp_out (by omega) j (by omega)
    unfold mplp
    by_cases e : q = j
    · subst e
      have hub2 := hub
      unfold mpst
      rw [hub]
      rw [hub] at ih
      generalize (mplp ls pn q u A).1 = u1 at *
      generalize (mplp ls pn q u A).2 = A1 at *
      by_cases c : ub u q = true
      · rw [if_pos c]
        rw [if_neg (fun c2 => by rw [c] at c2; cases c2.2)] at ih
        by_cases c3 : A1 (41 + q) - ls q < 0
        · rw [if_pos c3, if_pos ⟨c, by show ub (clr u1 q) q = false; rw [clr_ub u1 (by omega) q hq q hq]; simp⟩]
          simp (disch := omega) only [pk_un, pk_us]
          exact h34
        · rw [if_neg c3, if_neg (fun c2 => by have : ub u1 q = false := c2.2; rw [hub2, c] at this; cases this)]
          simp (disch := omega) only [pk_un]
          exact ih
      · rw [if_neg c]
        rw [if_neg (fun c2 => c c2.1)] at ih ⊢
        exact ih
    · have hs : (mpst ls pn j (mplp ls pn j u A).1 (mplp ls pn j u A).2).2 (53 + q) = (mplp ls pn j u A).2 (53 + q) := by
        unfold mpst
        split
        · split
          · simp (disch := omega) only [pk_un]
          · simp (disch := omega) only [pk_un]
        · rfl
      rw [hs, mpst_ub (by omega) (by omega) hq e, ih]
theorem mplay_34 {LT LP : Row → Int32} {A : Row} {n u t : Nat} (hn : n ≤ 6) : (mplay LT LP A n u t).2 34 = A 34 + 1 := by
  unfold mplay
  rw [mplp_out (by omega) n hn]
  unfold mtick
  exact pk_us
theorem mplay_sat {LT LP : Row → Int32} {A : Row} {n u t q : Nat} (hn : n ≤ 6) (hu : u < 64) (hq : q < 6) : (mplay LT LP A n u t).2 (53 + q) = if ub u q = true ∧ ub (mplay LT LP A n u t).1 q = false then A 34 + 1 else A (53 + q) := by
  unfold mplay
  rw [mplp_sat hu hq n hn]
  unfold mtick
  rw [pk_us, pk_un (by omega), pk_un (by omega)]
theorem mplay_up {LT LP : Row → Int32} {A : Row} {n u t q : Nat} (hn : n ≤ 6) (hu : u < 64) (hq : q < 6) (h : ub (mplay LT LP A n u t).1 q = true) : ub u q = true := mplp_up hu hq n hn h
theorem add_toInt {a b : Int32} (h1 : -1000000000 ≤ a.toInt) (h2 : a.toInt ≤ 1000000000) (h3 : -99 ≤ b.toInt) (h4 : b.toInt ≤ 99) : (a + b).toInt = a.toInt + b.toInt := by
  rw [Int32.toInt_add]
  exact Int.bmod_eq_of_le (by omega) (by omega)
theorem clP_b (v : Int32) : -99 ≤ (clP v).toInt ∧ (clP v).toInt ≤ 99 := by
  have k1 : (-99 : Int32).toInt = -99 := rfl
  have k2 : (99 : Int32).toInt = 99 := rfl
  unfold clP
  split
  · omega
  · next h1 =>
    split
    · omega
    · next h2 =>
      rw [i32_lt] at h1 h2
      omega
theorem RP.b {A : Row} {L : Row → Int32} (h : RP A L) (f : Row) : -99 ≤ (L f).toInt ∧ (L f).toInt ≤ 99 := by
  rcases h with ⟨-, rfl⟩ | ⟨-, φ, -, rfl⟩
  · exact ⟨show (-99 : Int) ≤ (1 : Int32).toInt by decide, show (1 : Int32).toInt ≤ 99 by decide⟩
  · exact clP_b _
theorem mplay_47 {LT LP : Row → Int32} {A : Row} {n u t p : Nat} (hn : n ≤ 6) (hu : u < 64) (hp : p < 6) : (mplay LT LP A n u t).2 (47 + p) = if p < n ∧ ub u p = true then A (47 + p) + LP (fac A n u p t) else A (47 + p) := by
  unfold mplay
  rw [mplp_47 hu hp n hn]
  unfold mtick
  rw [pk_un (by omega), pk_un (by omega)]
theorem Ev.play {LT LP : Row → Int32} {A : Row} {n u t e : Nat} (h : Wf A n u) (hL : RP A LP) (he : e < 1000000) (h34 : A 34 = nI e) (hs : ∀ p, p < n → Pb A e p) : (mplay LT LP A n u t).2 34 = nI (e + 1) ∧ ∀ p, p < n → Pb (mplay LT LP A n u t).2 (e + 1) p := by
  have hn := h.1
  refine ⟨by rw [mplay_34 hn, h34, nI_1], fun p hp => ?_⟩
  obtain ⟨s, a1, a2, a3, a4⟩ := hs p hp
  have b47 : -(99 * ((e + 1 : Nat) : Int)) ≤ ((mplay LT LP A n u t).2 (47 + p)).toInt ∧ ((mplay LT LP A n u t).2 (47 + p)).toInt ≤ 99 * ((e + 1 : Nat) : Int) := by
    rw [mplay_47 hn h.u64 (by omega)]
    split
    · have hb := hL.b (fac A n u p t)
      rw [add_toInt (by omega) (by omega) hb.1 hb.2]
      omega
    · omega
  have s53 := mplay_sat (LT := LT) (LP := LP) (A := A) (t := t) hn h.u64 (show p < 6 by omega)
  unfold Pb
  rw [s53]
  split
  · exact ⟨e + 1, Nat.le_refl _, by rw [h34, nI_1], b47.1, b47.2⟩
  · exact ⟨s, by omega, a2, b47.1, b47.2⟩
theorem mplay_out2 {LT LP : Row → Int32} {A : Row} {n u t k : Nat} (hn : n ≤ 6) (hk : ¬ (32 ≤ k ∧ k < 65)) : (mplay LT LP A n u t).2 k = A k := mplay_out hn (by unfold inst; omega)
section
variable {T : Nat → Option (Nat × Nat)} {I : Nat → Nat → Int32} {J : Nat → Nat → Int64} {P : Nat → Nat → Option Nat} {x nn c : Nat} {Iz : Nat → Nat → Int32} {Jz : Nat → Nat → Int64} {z N n u tn : Nat} {LT LP : Row → Int32} {d na v : Nat}
/-- what a call that changes something leaves behind -/
def Done (T : Nat → Option (Nat × Nat)) (I I2 : Nat → Nat → Int32) (J : Nat → Nat → Int64) (P : Nat → Nat → Option Nat) (x nn c : Nat) (Iz2 : Nat → Nat → Int32) (Jz : Nat → Nat → Int64) (z N : Nat) (v : Nat) : Prop := (∃ n u tn LT LP d na, InvS T I2 J P x nn c Iz2 Jz z (N + 1) n u tn LT LP d na (v + 1)) ∧ ∀ q, x + 108 ≤ q → q < x + 224 → ¬ (x + 135 ≤ q ∧ q ≤ x + 156) → I2 q = I q
theorem thr_z1 : KeepZ1 Iz (uI Iz z 0 0) z := KeepZ.thr.one
theorem before_is (h : InvS T I J P x nn c Iz Jz z N n u tn LT LP d na v) : ∃ I1, s_copyFrom I (x + 94) (x + 12) = some I1 ∧ RS I1 (x + 94) n (Iz (z + 1)) true ∧ (∀ q, ¬ (x + 94 ≤ q ∧ q ≤ x + 100) → I1 q = I q) ∧ InvS T I1 J P x nn c Iz Jz z N n u tn LT LP d na v := by
  have hcx := (h.1 c (Or.inl rfl)).1.1
  obtain ⟨I1, e1, e2, e3⟩ := h.rs.copy (a := x + 94) h.n6 h.wf.2.2.2.2 (by omega)
  refine ⟨I1, e1, e2, e3, ?_⟩
  exact h.turn (Nat.le_refl _) (fun _ _ => rfl) h.wf h.2.1.2.2.2.2.2.2.2 (h.rs.same (fun q a b => e3 q (by omega))) (by
    obtain ⟨p1, p2, p3, p4, p5, p6⟩ := h.2.2.1
    have e19 : I1 (x + 19) = I (x + 19) := e3 _ (by omega)
    refine ⟨p1, p2, p3, by rw [e19]; exact p4, by rw [e19]; exact p5, fun j hj => ?_⟩
    obtain ⟨uj, q1, q2, q3⟩ := p6 j hj
    have hm2 : (na + 10 - d + j) % 10 < 10 := Nat.mod_lt _ (by decide)
    exact ⟨uj, q1, q2.same (fun q a b => e3 q (by omega)), q3⟩) (fun q a b => e3 q (fun cc => a (by unfold Scr; omega))) (by rw [e3 _ (by omega)]) (by rw [e3 _ (by omega)]; exact h.2.2.2.2.2.2.2.1) h.2.2.2.2.2.2.2.2 (by rw [e3 _ (by omega)]) (by rw [e3 _ (by omega)]) ⟨rfl, rfl, rfl, rfl, rfl, rfl, rfl⟩
theorem play_call (h : InvS T I J P x nn c Iz Jz z N n u tn LT LP d na v) (hN : N < 600) (a : Int32) : ∃ r I2 Iz2, x_play 2000 T I P x c a = some (r, I2) ∧ r_play 2000 Iz z a = some (r, Iz2) ∧ (Done T I I2 J P x nn c Iz2 Jz z N v ∨ (KeepX I I2 x c ∧ KeepZ Iz Iz2 z ∧ ∀ q, x + 101 ≤ q → q < x + 224 → I2 q = I q)) := by
  have hn := h.n6
  have ht := h.t4
  have hcx := (h.1 c (Or.inl rfl)).1.1
  obtain ⟨I1, e1, hB, q1, h1⟩ := before_is h
  unfold x_play r_play
  rw [e1, Option.bind_some]
  try dsimp only
  have z1 : uI Iz z 0 0 (z + 1) = Iz (z + 1) := thr_row (by decide)
  unfold x_doMinute
  rcases arg_cases a tn (by omega) with ha | ⟨t, ht2, rfl⟩
  · rw [noTune_bad h1.c1 (by omega) ha, if_neg (show ¬ (1 : Int32) = 0 by decide), Option.bind_some, isTune_bad (by rw [z1]; exact h.z2) (by omega) ha, Option.bind_some]
    try dsimp only
    rw [if_neg (show ¬ (1 : Int32) = 0 by decide), if_pos rfl, show (-10 : Int32) - 1 = -11 by decide]
    refine ⟨_, _, _, rfl, rfl, Or.inr ⟨KeepX.of (fun q hq => q1 q (fun cc => hq (by unfold Scr; omega))) (q1 _ (by omega)) (q1 _ (by omega)), KeepZ.thr, fun q a1 a2 => q1 q (by omega)⟩⟩
  rw [noTune_ok h1.c1 (by omega) ht2, if_pos rfl, isTune_ok (by rw [z1]; exact h.z2) (by omega) ht2, Option.bind_some]
  try dsimp only
  rw [if_neg (show ¬ (1 : Int32) = 0 by decide)]
  obtain ⟨I2, e2, R2, q2⟩ := s_play_is (T := T) (P := P) (c := c) (t := t) (LT := LT) (LP := LP) (w := true) h1.wf h1.rs h1.cc (h1.apt (a := x + 12) (by omega) (by omega)) (fun _ => rfl)
  have e2 : s_playMinute 2000 T I1 P (x + 12) c (nI t) 1 = some I2 := e2
  rw [e2, Option.bind_some, Option.bind_some]
  try dsimp only
  rw [if_pos rfl]
  obtain ⟨Iz1, f1, f2, f3⟩ := r_keeps_is (I := uI Iz z 0 0) (z := z)
  rw [z1] at f2
  have z2 : Iz1 (z + 1) = Iz (z + 1) := (f3 _ (by omega)).trans z1
  rw [f1, Option.bind_some]
  try dsimp only
  obtain ⟨Iz2, g1, g2, g3⟩ := r_plays_is (I := Iz1) (z := z) (n := n) (u := u) (tn := t) (LT := LT) (LP := LP) (by rw [z2]; exact h.wf) (by rw [z2]; exact h.2.1.2.2.1) (by rw [z2]; exact h.2.1.2.2.2.1)
  rw [z2] at g1 g2
  rw [g1, Option.bind_some]
  try dsimp only
  obtain ⟨e, he, h34, hs⟩ := h.2.1.2.2.2.2.2.2.2
  have ev := Ev.play (LT := LT) (LP := LP) (t := t) h.wf h.2.1.2.2.2.1 (by omega) h34 hs
  obtain ⟨I3, Iz3, d', na', k1, k2, k3, k4, k5, k6⟩ := deed_keep h (I1 := I2) (Iz1 := Iz2) (A1 := (mplay LT LP (Iz (z + 1)) n u t).2) (u1 := (mplay LT LP (Iz (z + 1)) n u t).1) g2 (fun k hk => mplay_out2 hn hk) h.wf.play ⟨e + 1, by omega, ev.1, ev.2⟩ R2
    (hB.same (fun q a b => q2 q (by omega) (by omega) (by omega) (by omega)))
    (fun q a b => by rw [q2 q (by omega) (fun cc => a (by unfold Scr; omega)) (fun cc => a (by unfold Scr; omega)) (fun cc => a (by unfold Scr; omega))]; exact q1 q (fun cc => a (by unfold Scr; omega)))
    (by rw [q2 _ (by omega) (by omega) (by omega) (by omega)]; exact q1 _ (by omega)) (by rw [q2 _ (by omega) (by omega) (by omega) (by omega)]; exact q1 _ (by omega))
    (fun k hk => by rw [g3 _ (by omega) (by omega) (by omega) (by omega) (by omega)]; exact f2 k hk)
    (thr_z1.tr (KeepZ1.of (fun q a b => by rw [g3 q a (by omega) (by omega) (by omega) (by omega), f3 q (by omega)])))
  rw [k1, k2, Option.bind_some, Option.bind_some]
  try dsimp only
  have hup : s_howManyUp I3 (x + 94) - s_howManyUp I3 (x + 12) = nI (pcn u - pcn (mplay LT LP (Iz (z + 1)) n u t).1) := by
    unfold s_howManyUp
    have w1 := h.wf
    have w2 := h.wf.play (LT := LT) (LP := LP) (t := t)
    rw [k5 _ (by omega) (by omega), q2 _ (by omega) (by omega) (by omega) (by omega), hB.2.1, k3.rs.2.1, k4 32 (by omega), w1.2.2.1, w2.2.2.1, bitCount_tab _ w1.u64, bitCount_tab _ w2.u64, pk_sub]
    exact mplp_pcn w1.u64 n hn
  rw [hup]
  refine ⟨_, _, _, rfl, rfl, Or.inl ⟨⟨_, _, _, _, _, _, _, k3⟩, fun q a1 a2 a3 => ?_⟩⟩
  rw [k5 q (by omega) (by omega), q2 q (by omega) (by omega) (by omega) (by omega), q1 q (by omega)]
end
