/-! deeds on a State and on the row, side by side -/
def Evb (A : Row) (n e : Nat) : Prop := A 34 = nI e ∧ ∀ p, p < n → Pb A e p
def Sm (T : Nat → Option (Nat × Nat)) (I : Nat → Nat → Int32) (P : Nat → Nat → Option Nat) (a c : Nat) (Iz : Nat → Nat → Int32) (z n u tn : Nat) (LT LP : Row → Int32) (e : Nat) (w : Bool) : Prop :=
  Wf (Iz (z + 1)) n u ∧ RT (Iz (z + 1)) LT ∧ RP (Iz (z + 1)) LP ∧ CC T I P c (Iz (z + 1)) LT LP ∧ RS I a n (Iz (z + 1)) w ∧ (Iz (z + 1) 2 = nI tn ∧ tn ≤ 4) ∧ Apt P c a ∧ Evb (Iz (z + 1)) n e
def Fx (I I1 : Nat → Nat → Int32) (a c : Nat) : Prop := ∀ q, ¬ (a ≤ q ∧ q ≤ a + 6) → q ≠ c + 5 → q ≠ c + 6 → q ≠ c + 7 → I1 q = I q
def Fr (Iz Iz1 : Nat → Nat → Int32) (z : Nat) : Prop := (∀ q, q ≠ z + 1 → q ≠ z + 5 → q ≠ z + 6 → q ≠ z + 8 → q ≠ z + 9 → Iz1 q = Iz q) ∧ ∀ k, ¬ (32 ≤ k ∧ k < 65) → Iz1 (z + 1) k = Iz (z + 1) k
theorem Fx.rf {I : Nat → Nat → Int32} {a c : Nat} : Fx I I a c := fun _ _ _ _ _ => rfl
theorem Fx.tr {I I1 I2 : Nat → Nat → Int32} {a c : Nat} (h : Fx I I1 a c) (h2 : Fx I1 I2 a c) : Fx I I2 a c := fun q a1 a2 a3 a4 => (h2 q a1 a2 a3 a4).trans (h q a1 a2 a3 a4)
theorem Fr.rf {I : Nat → Nat → Int32} {z : Nat} : Fr I I z := ⟨fun _ _ _ _ _ _ => rfl, fun _ _ => rfl⟩
theorem Fr.tr {I I1 I2 : Nat → Nat → Int32} {z : Nat} (h : Fr I I1 z) (h2 : Fr I1 I2 z) : Fr I I2 z := ⟨fun q a1 a2 a3 a4 a5 => (h2.1 q a1 a2 a3 a4 a5).trans (h.1 q a1 a2 a3 a4 a5), fun k hk => (h2.2 k hk).trans (h.2 k hk)⟩
def Nx (T : Nat → Option (Nat × Nat)) (I I1 : Nat → Nat → Int32) (P : Nat → Nat → Option Nat) (a c : Nat) (Iz Iz1 : Nat → Nat → Int32) (z n tn : Nat) (LT LP : Row → Int32) (e : Nat) (w : Bool) : Prop := (∃ u1 e1, e1 ≤ e + 1 ∧ Sm T I1 P a c Iz1 z n u1 tn LT LP e1 w) ∧ Fx I I1 a c ∧ Fr Iz Iz1 z
section
variable {T : Nat → Option (Nat × Nat)} {I : Nat → Nat → Int32} {P : Nat → Nat → Option Nat} {x a c : Nat} {Iz : Nat → Nat → Int32} {z n u tn : Nat} {LT LP : Row → Int32} {e : Nat} {w : Bool}
theorem Sm.next (h : Sm T I P a c Iz z n u tn LT LP e w) {I1 Iz1 : Nat → Nat → Int32} {u1 e1 : Nat} {w1 : Bool} (he : e1 ≤ e + 1) (hw : Wf (Iz1 (z + 1)) n u1) (hR : RS I1 a n (Iz1 (z + 1)) w1) (hE : Evb (Iz1 (z + 1)) n e1) (hx : Fx I I1 a c) (hz : Fr Iz Iz1 z) : Nx T I I1 P a c Iz Iz1 z n tn LT LP e w1 := by
  obtain ⟨h1, h2, h3, h4, h5, h6, h7, h8⟩ := h
  refine ⟨⟨u1, e1, he, hw, h2.same (fun k hk => hz.2 k (by omega)), h3.same (fun k hk => hz.2 k (by omega)), ?_, hR, ⟨by rw [hz.2 _ (by omega)]; exact h6.1, h6.2⟩, h7, hE⟩, hx, hz⟩
  refine (h4.row (fun k hk => hz.2 k (by omega))).same (fun q a1 a2 => hx q (by have := h7.1; omega) (by omega) (by omega) (by omega)) (fun w hw => ?_)
  have := h7.2 w hw
  exact hx _ (by omega) (by omega) (by omega) (by omega)
theorem cp_minute (h : Sm T I P a c Iz z n u tn LT LP e true) (he : e < 1000000) (t : Int32) : ∃ w I1, x_doMinute 2000 T I P x a c t = some (w, I1) ∧ ((w = 1 ∧ I1 = I ∧ r_isTune Iz z (Int32.toInt64 t) = some 0) ∨ (w = 0 ∧ r_isTune Iz z (Int32.toInt64 t) = some 1 ∧ ∃ cnt Iz1, r_plays 2000 Iz z t = some (cnt, Iz1) ∧ Nx T I I1 P a c Iz Iz1 z n tn LT LP e true)) := by
  obtain ⟨h1, h2, h3, h4, h5, h6, h7, h8⟩ := id h
  have hn := h1.1
  have c1 : I c 1 = nI tn := h4.1.2.1.trans h6.1
  have ht := h6.2
  unfold x_doMinute
  rcases arg_cases t tn (by omega) with ht1 | ⟨t, ht1, rfl⟩
  · rw [noTune_bad c1 (by omega) ht1]
    exact ⟨_, _, rfl, Or.inl ⟨rfl, rfl, isTune_bad h6.1 (by omega) ht1⟩⟩
  · rw [noTune_ok c1 (by omega) ht1, if_pos rfl]
    obtain ⟨I1, e1, R1, q1⟩ := s_play_is (T := T) (P := P) (c := c) (t := t) (w := true) h1 h5 h4 h7 (fun _ => rfl)
    have e1 : s_playMinute 2000 T I P a c (nI t) 1 = some I1 := e1
    rw [e1, Option.bind_some]
    obtain ⟨Iz1, f1, f2, f3⟩ := r_plays_is (tn := t) h1 h2 h3
    have ev := Ev.play (LT := LT) (LP := LP) (t := t) h1 h3 he h8.1 h8.2
    refine ⟨_, _, rfl, Or.inr ⟨rfl, isTune_ok h6.1 (by omega) ht1, _, _, f1, h.next (u1 := (mplay LT LP (Iz (z + 1)) n u t).1) (Nat.le_refl _) ?_ ?_ ?_ (fun q a1 a2 a3 a4 => q1 q a1 a2 a3 a4) ⟨f3, fun k hk => by rw [f2, mplay_out2 hn hk]⟩⟩⟩
    · rw [f2]; exact h1.play
    · rw [f2]; exact R1
    · rw [f2]; exact ev
theorem cp_sit (h : Sm T I P a c Iz z n u tn LT LP e true) (p : Int32) : ∃ w I1, x_doSit I x a c p = some (w, I1) ∧ r_whySit Iz z (Int32.toInt64 p) = some w ∧ ((w ≠ 0 ∧ I1 = I) ∨ (w = 0 ∧ ∃ Iz1, r_sitsOwn Iz z p = some Iz1 ∧ Nx T I I1 P a c Iz Iz1 z n tn LT LP e true)) := by
  obtain ⟨h1, h2, h3, h4, h5, h6, h7, h8⟩ := id h
  have hn := h1.1
  have c0 : I c 0 = nI n := h4.1.1.trans h1.2.1
  unfold x_doSit
  rcases arg_cases p n (by omega) with hp | ⟨p, hp, rfl⟩
  · rw [noPerson_bad c0 hn hp]
    exact ⟨_, _, rfl, whySit_bad h1.2.1 hn hp, Or.inl ⟨by decide, rfl⟩⟩
  · rw [noPerson_ok c0 hn hp, if_pos rfl, s_isUp_is (h5.2.1.trans h1.2.2.1) h1.u64 (by omega), whySit_ok h1 hp]
    cases hb : ub u p with
    | false => exact ⟨_, _, rfl, rfl, Or.inl ⟨by decide, rfl⟩⟩
    | true =>
      rw [if_neg (show ¬ b2 true = 0 by decide)]
      obtain ⟨I1, e1, R1, q1⟩ := s_seat_is h1 h5 hp
      obtain ⟨Iz1, f1, f2, f3⟩ := r_sitsOwn_is h1 hp
      rw [e1, Option.bind_some]
      have ev := Ev.seat (u := u) hn hp h8.1 h8.2
      refine ⟨_, _, rfl, rfl, Or.inr ⟨rfl, _, f1, h.next (u1 := clr u p) (Nat.le_refl _) ?_ ?_ ?_ (fun q a1 a2 a3 a4 => q1 q a1) ⟨fun q a1 a2 a3 a4 a5 => f3 q a1, fun k hk => by rw [f2, mseat_out2 (by omega) hk]⟩⟩⟩
      · rw [f2]; exact h1.seat hp
      · rw [f2]; exact R1
      · rw [f2]; exact ev
theorem cp_change (h : Sm T I P a c Iz z n u tn LT LP e true) (p q : Int32) : ∃ w I1, x_doChange I x a c p q = some (w, I1) ∧ ((w = 1 ∧ I1 = I ∧ r_areTwo Iz z (Int32.toInt64 p) (Int32.toInt64 q) = some 0) ∨ (w = 0 ∧ r_areTwo Iz z (Int32.toInt64 p) (Int32.toInt64 q) = some 1 ∧ ∃ Iz1, r_changes Iz z p q = some Iz1 ∧ Nx T I I1 P a c Iz Iz1 z n tn LT LP e true)) := by
  obtain ⟨h1, h2, h3, h4, h5, h6, h7, h8⟩ := id h
  have hn := h1.1
  have c0 : I c 0 = nI n := h4.1.1.trans h1.2.1
  unfold x_doChange
  rcases arg_cases p n (by omega) with hp | ⟨p, hp, rfl⟩
  · rw [noPerson_bad c0 hn hp]
    exact ⟨_, _, rfl, Or.inl ⟨rfl, rfl, areTwo_bad1 h1.2.1 hn hp⟩⟩
  rw [noPerson_ok c0 hn hp, if_pos rfl]
  rcases arg_cases q n (by omega) with hq | ⟨q, hq, rfl⟩
  · rw [noPerson_bad c0 hn hq]
    exact ⟨_, _, rfl, Or.inl ⟨rfl, rfl, areTwo_bad2 h1.2.1 hn hp hq⟩⟩
  rw [noPerson_ok c0 hn hq, if_pos rfl, areTwo_ok h1.2.1 hn hp hq]
  by_cases ee : p = q
  · rw [if_pos (by rw [ee]), if_pos ee]
    exact ⟨_, _, rfl, Or.inl ⟨rfl, rfl, rfl⟩⟩
  · rw [if_neg (fun cc => ee ((nI_eq (by omega) (by omega)).mp cc)), if_neg ee]
    obtain ⟨I1, e1, R1, q1⟩ := s_exchange_is h1 h5 hp hq ee
    obtain ⟨Iz1, f1, f2, f3⟩ := r_changes_is h1 hp hq
    rw [e1, Option.bind_some]
    refine ⟨_, _, rfl, Or.inr ⟨rfl, rfl, _, f1, h.next (u1 := u) (e1 := e) (by omega) ?_ ?_ ?_ (fun r a1 a2 a3 a4 => q1 r a1) ⟨fun q a1 a2 a3 a4 a5 => f3 q a1, fun k hk => by rw [f2, mchg_out (by omega)]⟩⟩⟩
    · rw [f2]; exact h1.chg hp hq ee
    · rw [f2]; exact R1
    · rw [f2]
      exact ⟨by rw [mchg_out (by omega)]; exact h8.1, fun p hp => (h8.2 p hp).row (mchg_out (by omega)) (mchg_out (by omega))⟩
theorem cp_wine (h : Sm T I P a c Iz z n u tn LT LP e true) (p q : Int32) : ∃ w I1, x_doWine I x a c p q = some (w, I1) ∧ r_whyWine Iz z (Int32.toInt64 p) (Int32.toInt64 q) = some w ∧ ((w ≠ 0 ∧ I1 = I) ∨ (w = 0 ∧ ∃ Iz1, r_drinks Iz z p q = some Iz1 ∧ Nx T I I1 P a c Iz Iz1 z n tn LT LP e true)) := by
  obtain ⟨h1, h2, h3, h4, h5, h6, h7, h8⟩ := id h
  have hn := h1.1
  have c0 : I c 0 = nI n := h4.1.1.trans h1.2.1
  unfold x_doWine
  rcases arg_cases p n (by omega) with hp | ⟨p, hp, rfl⟩
  · rw [noPerson_bad c0 hn hp]
    exact ⟨_, _, rfl, whyWine_bad1 h1.2.1 hn hp, Or.inl ⟨by decide, rfl⟩⟩
  rw [noPerson_ok c0 hn hp, if_pos rfl]
  by_cases hq : 1 ≤ q ∧ q ≤ 9
  · rw [if_neg (Int32.not_lt.mpr hq.1), if_pos hq.2, whyWine_ok h1 hp hq, s_isUp_is (h5.2.1.trans h1.2.2.1) h1.u64 (by omega)]
    cases hb : ub u p with
    | false => exact ⟨_, _, rfl, rfl, Or.inl ⟨by decide, rfl⟩⟩
    | true =>
      rw [if_neg (show ¬ b2 true = 0 by decide), chk_nI (by omega) (by decide), nI_cl (by omega)]
      obtain ⟨Iz1, f1, f2, f3⟩ := r_drinks_is (v := q) h1 hp
      refine ⟨_, _, rfl, rfl, Or.inr ⟨rfl, _, f1, h.next (u1 := u) (e1 := e) (by omega) ?_ ?_ ?_ (fun r a1 a2 a3 a4 => uI_row _ _ _ _ _ (by omega)) ⟨fun q a1 a2 a3 a4 a5 => f3 q a1, fun k hk => by rw [f2, mwin_out (by omega)]⟩⟩⟩
      · rw [f2]; exact h1.win
      · rw [f2]; exact s_win_is h1 h5 hp
      · rw [f2]
        exact ⟨by rw [mwin_out (by omega)]; exact h8.1, fun p hp => (h8.2 p hp).row (mwin_out (by omega)) (mwin_out (by omega))⟩
  · rw [whyWine_bad2 h1.2.1 hn hp hq]
    by_cases k1 : q < 1
    · rw [if_pos k1]
      exact ⟨_, _, rfl, rfl, Or.inl ⟨by decide, rfl⟩⟩
    · rw [if_neg k1, if_neg (fun k2 => hq ⟨Int32.not_lt.mp k1, k2⟩)]
      exact ⟨_, _, rfl, rfl, Or.inl ⟨by decide, rfl⟩⟩
theorem cp_eve (h : Sm T I P a c Iz z n u tn LT LP e true) : ∃ I1 Iz1, s_standAgain 2000 I a c = some I1 ∧ r_evenings 2000 Iz z = some Iz1 ∧ Nx T I I1 P a c Iz Iz1 z n tn LT LP e true := by
  obtain ⟨h1, h2, h3, h4, h5, h6, h7, h8⟩ := id h
  have hn := h1.1
  obtain ⟨I1, e1, R1, q1⟩ := s_again_is (c := c) h1 h5 (fun p hp => (h4.1.2.2.2.2.1 p hp).1) h7.1
  obtain ⟨Iz1, f1, f2, f3⟩ := r_evenings_is h1
  refine ⟨I1, Iz1, e1, f1, h.next (u1 := 2 ^ n - 1) (e1 := 0) (by omega) ?_ ?_ ?_ (fun r a1 a2 a3 a4 => q1 r a1) ⟨fun q a1 a2 a3 a4 a5 => f3 q a1, fun k hk => by rw [f2, meve_out (by unfold inst; omega)]⟩⟩
  · rw [f2]; exact h1.eve
  · rw [f2]; exact R1
  · rw [f2]
    exact ⟨meve_34, fun p hp => Pb.eve (by omega)⟩
/-! a told deed -/
theorem wnum (k lo hi : Nat) (hk : k < 1000) (hl : lo < 1000) (hh : hi < 1000) : r_within (lN k) (lN lo) (lN hi) = b2 (decide (lo ≤ k) && decide (k ≤ hi)) := by
  rw [← nI_l (show k < 2147483648 by omega), ← nI_l (show lo < 2147483648 by omega), ← nI_l (show hi < 2147483648 by omega), within_i]
  have e1 : decide (nI lo ≤ nI k) = decide (lo ≤ k) := decide_eq_decide.mpr (nI_leI (by omega) (by omega))
  have e2 : decide (nI k ≤ nI hi) = decide (k ≤ hi) := decide_eq_decide.mpr (nI_leI (by omega) (by omega))
  rw [e1, e2]
theorem within_out {v lo hi : Int64} (h : v < lo ∨ hi < v) : r_within v lo hi = 0 := by
  unfold r_within
  by_cases c1 : v < lo
  · rw [if_pos ((lg_cmp_lt _ _).mpr c1)]
  · rw [if_neg (fun cc => c1 ((lg_cmp_lt _ _).mp cc)), if_pos ((lg_cmp_gt _ _).mpr (h.resolve_left c1))]
theorem i64_lt {a b : Int64} : a < b ↔ a.toInt < b.toInt := Int64.lt_iff_toInt_lt
theorem i64_le {a b : Int64} : a ≤ b ↔ a.toInt ≤ b.toInt := Int64.le_iff_toInt_le
def Told (T : Nat → Option (Nat × Nat)) (I I1 : Nat → Nat → Int32) (P : Nat → Nat → Option Nat) (a c : Nat) (Iz : Nat → Nat → Int32) (z n tn : Nat) (LT LP : Row → Int32) (e : Nat) (v : Int64) (w : Int32) : Prop := r_whyNot Iz z v = some w ∧ ((w ≠ 0 ∧ I1 = I) ∨ (w = 0 ∧ ∃ Iz1, r_does 2000 Iz z (Int64.toInt32 v) = some Iz1 ∧ Nx T I I1 P a c Iz Iz1 z n tn LT LP e true))
theorem cp_deed (h : Sm T I P a c Iz z n u tn LT LP e true) (he : e < 1000000) (v : Int64) : ∃ w I1, x_doDeed 2000 T I P x a c v = some (w, I1) ∧ Told T I I1 P a c Iz z n tn LT LP e v w := by
  unfold x_doDeed Told r_whyNot r_does
  by_cases v1 : v = -1
  · subst v1
    rw [if_pos ((lg_cmp_eq _ _).mpr rfl), if_pos ((lg_cmp_eq _ _).mpr rfl), if_pos (show Int64.toInt32 (-1) = -1 by decide)]
    obtain ⟨I1, Iz1, e1, e2, e3⟩ := cp_eve h
    rw [e1, e2]
    exact ⟨_, _, rfl, rfl, Or.inr ⟨rfl, _, rfl, e3⟩⟩
  rw [if_neg (fun cc => v1 ((lg_cmp_eq _ _).mp cc)), if_neg (fun cc => v1 ((lg_cmp_eq _ _).mp cc))]
  by_cases v2 : v < 0
  · rw [if_pos ((lg_cmp_lt _ _).mpr v2)]
    have o : ∀ lo hi : Int64, 0 ≤ lo → r_within v lo hi = 0 := fun lo hi hl => within_out (Or.inl (by rw [i64_lt] at *; rw [i64_le] at hl; omega))
    rw [o 0 9 (by decide), o 10 19 (by decide), o 100 199 (by decide), o 200 299 (by decide)]
    exact ⟨_, _, rfl, rfl, Or.inl ⟨show (1 : Int32) ≠ 0 by decide, rfl⟩⟩
  rw [if_neg (fun cc => v2 ((lg_cmp_lt _ _).mp cc))]
  by_cases v3 : v ≤ 299
  · rw [if_pos ((lg_cmp_le _ _).mpr v3)]
    obtain ⟨k, hk, rfl⟩ := pk_lOf v2
    have hk : k ≤ 299 := (pk_lLE hk (by decide)).mp (show lN k ≤ lN 299 from v3)
    have w1 : r_within (lN k) 0 9 = b2 (decide (0 ≤ k) && decide (k ≤ 9)) := wnum k 0 9 (by omega) (by omega) (by omega)
    have w2 : r_within (lN k) 10 19 = b2 (decide (10 ≤ k) && decide (k ≤ 19)) := wnum k 10 19 (by omega) (by omega) (by omega)
    have w3 : r_within (lN k) 100 199 = b2 (decide (100 ≤ k) && decide (k ≤ 199)) := wnum k 100 199 (by omega) (by omega) (by omega)
    have w4 : r_within (lN k) 200 299 = b2 (decide (200 ≤ k) && decide (k ≤ 299)) := wnum k 200 299 (by omega) (by omega) (by omega)
    rw [w1, w2, w3, w4, lN_i]
    dsimp only
    have le : ∀ j, j < 1000 → (nI j ≤ nI k) = (j ≤ k) := fun j hj => nI_LE (by omega) (by omega)
    have l10 : ((10 : Int32) ≤ nI k) = (10 ≤ k) := le 10 (by decide)
    have l20 : ((20 : Int32) ≤ nI k) = (20 ≤ k) := le 20 (by decide)
    have l100 : ((100 : Int32) ≤ nI k) = (100 ≤ k) := le 100 (by decide)
    have l200 : ((200 : Int32) ≤ nI k) = (200 ≤ k) := le 200 (by decide)
    have nm1 : ¬ nI k = -1 := fun cc => by
      have := nI_pos (n := k) (by omega)
      rw [cc] at this
      exact this (by decide)
    have em : lN k - lN k / 10 * 10 = lN (k % 10) := pk_lRem (b := 10) (by omega) (by decide) (by decide)
    have em2 : nI k - nI k / 10 * 10 = nI (k % 10) := pk_rem (d := 10) (by omega) (by decide) (by decide)
    rw [if_neg nm1]
    by_cases k1 : k < 10
    · have n10 : ¬ (10 : Int32) ≤ nI k := by rw [l10]; omega
      rw [if_neg n10, if_neg n10]
      have d1 : (decide (0 ≤ k) && decide (k ≤ 9)) = true := by simp; omega
      rw [d1, if_neg (show ¬ b2 true = 0 by decide), ← nI_l (show k < 2147483648 by omega)]
      obtain ⟨w, I1, e1, e2⟩ := cp_minute (x := x) h he (nI k)
      rw [e1]
      rcases e2 with ⟨rfl, rfl, e3⟩ | ⟨rfl, e3, cnt, Iz1, e4, e5⟩
      · rw [e3]
        exact ⟨_, _, rfl, rfl, Or.inl ⟨show (1 : Int32) ≠ 0 by decide, rfl⟩⟩
      · rw [e3, e4]
        exact ⟨_, _, rfl, rfl, Or.inr ⟨rfl, _, rfl, e5⟩⟩
    have d1 : (decide (0 ≤ k) && decide (k ≤ 9)) = false := by simp; omega
    rw [d1, if_pos (show b2 false = 0 from rfl), if_pos (show (10 : Int32) ≤ nI k by rw [l10]; omega), if_pos (show (10 : Int32) ≤ nI k by rw [l10]; omega)]
    by_cases k2 : k < 20
    · rw [if_neg (show ¬ (20 : Int32) ≤ nI k by rw [l20]; omega), if_neg (show ¬ (100 : Int32) ≤ nI k by rw [l100]; omega)]
      have d2 : (decide (10 ≤ k) && decide (k ≤ 19)) = true := by simp; omega
      rw [d2, if_neg (show ¬ b2 true = 0 by decide)]
      have s1 : lN k - 10 = Int32.toInt64 (nI (k - 10)) := by rw [nI_l (by omega)]; exact lN_sub (b := 10) (by omega)
      have s2 : nI k - 10 = nI (k - 10) := pk_sub (b := 10) (by omega)
      rw [s1, s2]
      obtain ⟨w, I1, e1, e2, e3⟩ := cp_sit (x := x) h (nI (k - 10))
      rw [e1, e2]
      rcases e3 with ⟨f1, f2⟩ | ⟨f1, Iz1, f2, f3⟩
      · exact ⟨_, _, rfl, rfl, Or.inl ⟨f1, f2⟩⟩
      · rw [f2]
        exact ⟨_, _, rfl, rfl, Or.inr ⟨f1, _, rfl, f3⟩⟩
    have d2 : (decide (10 ≤ k) && decide (k ≤ 19)) = false := by simp; omega
    rw [d2, if_pos (show b2 false = 0 from rfl), if_pos (show (20 : Int32) ≤ nI k by rw [l20]; omega)]
    by_cases k3 : k < 100
    · rw [if_neg (show ¬ (100 : Int32) ≤ nI k by rw [l100]; omega)]
      have d3 : (decide (100 ≤ k) && decide (k ≤ 199)) = false := by simp; omega
      have d4 : (decide (200 ≤ k) && decide (k ≤ 299)) = false := by simp; omega
      rw [d3, d4, if_pos (show b2 false = 0 from rfl), if_pos (show b2 false = 0 from rfl)]
      exact ⟨_, _, rfl, rfl, Or.inl ⟨show (1 : Int32) ≠ 0 by decide, rfl⟩⟩
    rw [if_pos (show (100 : Int32) ≤ nI k by rw [l100]; omega), if_pos (show (100 : Int32) ≤ nI k by rw [l100]; omega)]
    by_cases k4 : k < 200
    · have n200 : ¬ (200 : Int32) ≤ nI k := by rw [l200]; omega
      rw [if_neg n200, if_neg n200]
      have d3 : (decide (100 ≤ k) && decide (k ≤ 199)) = true := by simp; omega
      rw [d3, if_neg (show ¬ b2 true = 0 by decide)]
      have s1 : (lN k - 100) / 10 = Int32.toInt64 (nI ((k - 100) / 10)) := by
        rw [nI_l (by omega), show lN k - 100 = lN (k - 100) from lN_sub (b := 100) (by omega)]
        exact pk_lDiv (b := 10) (by omega) (by decide) (by decide)
      have s2 : (nI k - 100) / 10 = nI ((k - 100) / 10) := by
        rw [show nI k - 100 = nI (k - 100) from pk_sub (b := 100) (by omega)]
        exact pk_div (d := 10) (by omega) (by decide) (by decide)
      rw [em, em2, s1, s2, ← nI_l (show k % 10 < 2147483648 by omega)]
      obtain ⟨w, I1, e1, e2⟩ := cp_change (x := x) h (nI ((k - 100) / 10)) (nI (k % 10))
      rw [e1]
      rcases e2 with ⟨rfl, rfl, e3⟩ | ⟨rfl, e3, Iz1, e4, e5⟩
      · rw [e3]
        exact ⟨_, _, rfl, rfl, Or.inl ⟨show (1 : Int32) ≠ 0 by decide, rfl⟩⟩
      · rw [e3, e4]
        exact ⟨_, _, rfl, rfl, Or.inr ⟨rfl, _, rfl, e5⟩⟩
    · have n200 : (200 : Int32) ≤ nI k := by rw [l200]; omega
      rw [if_pos n200, if_pos n200]
      have d3 : (decide (100 ≤ k) && decide (k ≤ 199)) = false := by simp; omega
      have d4 : (decide (200 ≤ k) && decide (k ≤ 299)) = true := by simp; omega
      rw [d3, d4, if_pos (show b2 false = 0 from rfl), if_neg (show ¬ b2 true = 0 by decide)]
      have s1 : (lN k - 200) / 10 = Int32.toInt64 (nI ((k - 200) / 10)) := by
        rw [nI_l (by omega), show lN k - 200 = lN (k - 200) from lN_sub (b := 200) (by omega)]
        exact pk_lDiv (b := 10) (by omega) (by decide) (by decide)
      have s2 : (nI k - 200) / 10 = nI ((k - 200) / 10) := by
        rw [show nI k - 200 = nI (k - 200) from pk_sub (b := 200) (by omega)]
        exact pk_div (d := 10) (by omega) (by decide) (by decide)
      rw [em, em2, s1, s2, ← nI_l (show k % 10 < 2147483648 by omega)]
      obtain ⟨w, I1, e1, e2, e3⟩ := cp_wine (x := x) h (nI ((k - 200) / 10)) (nI (k % 10))
      rw [e1, e2]
      rcases e3 with ⟨f1, f2⟩ | ⟨f1, Iz1, f2, f3⟩
      · exact ⟨_, _, rfl, rfl, Or.inl ⟨f1, f2⟩⟩
      · rw [f2]
        exact ⟨_, _, rfl, rfl, Or.inr ⟨f1, _, rfl, f3⟩⟩
  · rw [if_neg (fun cc => v3 ((lg_cmp_le _ _).mp cc))]
    have o : ∀ lo hi : Int64, hi ≤ 299 → r_within v lo hi = 0 := fun lo hi hl => within_out (Or.inr (by rw [i64_lt]; rw [i64_le] at v3 hl; omega))
    rw [o 0 9 (by decide), o 10 19 (by decide), o 100 199 (by decide), o 200 299 (by decide)]
    exact ⟨_, _, rfl, rfl, Or.inl ⟨show (1 : Int32) ≠ 0 by decide, rfl⟩⟩
end
