/-! nights -/
section
variable {T : Nat → Option (Nat × Nat)} {I : Nat → Nat → Int32} {J : Nat → Nat → Int64} {P : Nat → Nat → Option Nat} {x nn a c : Nat} {Iz : Nat → Nat → Int32} {Jz : Nat → Nat → Int64} {z N n u tn : Nat} {LT LP : Row → Int32} {d na v e : Nat}
theorem cp_pl {w w0 : Bool} {t : Nat} (h : Sm T I P a c Iz z n u tn LT LP e w0) (he : e < 1000000) (hw : w = true → w0 = true) : ∃ I1 Iz1 cnt, s_playMinute 2000 T I P a c (nI t) (b2 w) = some I1 ∧ r_plays 2000 Iz z (nI t) = some (cnt, Iz1) ∧ Iz1 (z + 1) = (mplay LT LP (Iz (z + 1)) n u t).2 ∧ Sm T I1 P a c Iz1 z n (mplay LT LP (Iz (z + 1)) n u t).1 tn LT LP (e + 1) w ∧ Fx I I1 a c ∧ Fr Iz Iz1 z := by
  obtain ⟨h1, h2, h3, h4, h5, h6, h7, h8⟩ := id h
  have hn := h1.1
  obtain ⟨I1, e1, R1, q1⟩ := s_play_is (T := T) (P := P) (c := c) (t := t) (w := w) h1 h5 h4 h7 hw
  obtain ⟨Iz1, f1, f2, f3⟩ := r_plays_is (tn := t) h1 h2 h3
  have ev := Ev.play (LT := LT) (LP := LP) (t := t) h1 h3 he h8.1 h8.2
  have fr : Fr Iz Iz1 z := ⟨f3, fun k hk => by rw [f2, mplay_out2 hn hk]⟩
  have fx : Fx I I1 a c := fun q a1 a2 a3 a4 => q1 q a1 a2 a3 a4
  refine ⟨I1, Iz1, _, e1, f1, f2, ⟨by rw [f2]; exact h1.play, h2.same (fun k hk => fr.2 k (by omega)), h3.same (fun k hk => fr.2 k (by omega)), ?_, by rw [f2]; exact R1, ⟨by rw [fr.2 _ (by omega)]; exact h6.1, h6.2⟩, h7, by rw [f2]; exact ev⟩, fx, fr⟩
  refine (h4.row (fun k hk => fr.2 k (by omega))).same (fun q a1 a2 => fx q (by have := h7.1; omega) (by omega) (by omega) (by omega)) (fun w hw => ?_)
  have := h7.2 w hw
  exact fx _ (by omega) (by omega) (by omega) (by omega)
/-- a night as the class has taken it, and as it lies in the reference's tray t -/
def Ngt (I : Nat → Nat → Int32) (x : Nat) (Iz : Nat → Nat → Int32) (Jz : Nat → Nat → Int64) (z t m tn : Nat) (tl : Nat → Nat) : Prop := t < 4 ∧ m ≤ 30 ∧ I (x + 108) 1 = nI m ∧ Iz (z + 19) t = nI m ∧ ∀ i, i < m → I (x + 109) i = nI (tl i) ∧ Jz (z + 20) (40 * t + i) = lN (tl i) ∧ tl i < tn
theorem Ngt.fx {t m : Nat} {tl : Nat → Nat} (h : Ngt I x Iz Jz z t m tn tl) {I1 Iz1 : Nat → Nat → Int32} (hx : I1 (x + 108) 1 = I (x + 108) 1) (hx2 : I1 (x + 109) = I (x + 109)) (hz : Iz1 (z + 19) = Iz (z + 19)) : Ngt I1 x Iz1 Jz z t m tn tl := by
  obtain ⟨h1, h2, h3, h4, h5⟩ := h
  exact ⟨h1, h2, by rw [hx]; exact h3, by rw [hz]; exact h4, fun i hi => by rw [hx2]; exact h5 i hi⟩
theorem Ngt.go {t m : Nat} {tl : Nat → Nat} (h : Ngt I x Iz Jz z t m tn tl) {I1 Iz1 : Nat → Nat → Int32} (hc : c = x + 4 ∨ x + 224 ≤ c) (ha : a + 6 < x + 108 ∨ x + 109 < a) (hx : Fx I I1 a c) (hz : Fr Iz Iz1 z) : Ngt I1 x Iz1 Jz z t m tn tl :=
  h.fx (by rw [hx _ (by omega) (by omega) (by omega) (by omega)]) (hx _ (by omega) (by omega) (by omega) (by omega)) (hz.1 _ (by omega) (by omega) (by omega) (by omega) (by omega))
theorem lt_tune {s : Int64} {tn : Nat} (ht : tn ≤ 4) : (¬ (lg_cmp s 0) < 0 ∧ (lg_cmp s (Int32.toInt64 (nI tn))) < 0) ↔ ∃ k : Nat, k < tn ∧ s = lN k := by
  rw [lg_cmp_lt, lg_cmp_lt, nI_l (by omega)]
  constructor
  · rintro ⟨h1, h2⟩
    obtain ⟨k, hk, rfl⟩ := pk_lOf h1
    exact ⟨k, (pk_lLT hk (by omega)).mp h2, rfl⟩
  · rintro ⟨k, hk, rfl⟩
    refine ⟨fun cc => ?_, (pk_lLT (by omega) (by omega)).mpr hk⟩
    rw [i64_lt, pk_lT (by omega)] at cc
    have : (0 : Int64).toInt = 0 := rfl
    omega
theorem isTune_l {s : Int64} (h : Iz (z + 1) 2 = nI tn) (ht : tn ≤ 4) : r_isTune Iz z s = some (if ∃ k : Nat, k < tn ∧ s = lN k then 1 else 0) := by
  by_cases hk : ∃ k : Nat, k < tn ∧ s = lN k
  · rw [if_pos hk]
    obtain ⟨k, hk, rfl⟩ := hk
    rw [← nI_l (show k < 2147483648 by omega)]
    exact isTune_ok h (by omega) hk
  · rw [if_neg hk]
    unfold r_isTune
    rw [show Int32.toNatClampNeg 2 = 2 from rfl, h]
    have h0 : r_within s 0 (Int32.toInt64 (nI tn - 1)) = 0 := by
      refine within_out ?_
      by_cases c0 : s < 0
      · exact Or.inl c0
      · right
        obtain ⟨k, hk2, rfl⟩ := pk_lOf c0
        have : tn ≤ k := Nat.not_lt.mp fun cc => hk ⟨k, cc, rfl⟩
        rw [i64_lt, pk_lT hk2, Int32.toInt_toInt64]
        have := pk_sub_toInt (a := tn) (b := 1) (by omega) (by decide)
        rw [show (nI tn - 1).toInt = ((tn : Int) - 1) from this]
        omega
    rw [h0, isb_0]
/-- a tray taken as a night -/
theorem take_go {ty t m : Nat} (ht : t < 4) (hty : ty ≠ x + 109) (hm : m ≤ 30) (h4 : tn ≤ 4) (hz2 : Iz (z + 1) 2 = nI tn) (h19 : Iz (z + 19) t = nI m) (hJ : ∀ i, i < m → J (ty + 1) i = Jz (z + 20) (40 * t + i)) {g2 : Int32} : ∀ (j k f g : Nat) (I : Nat → Nat → Int32), k + j = m → j < f → j < g → I ty 1 = nI m →
    ∃ I1, (∀ q, q ≠ x + 109 → I1 q = I q) ∧ (∀ i, i < k → I1 (x + 109) i = I (x + 109) i) ∧ (((∃ i, k ≤ i ∧ i < m ∧ ¬ ∃ s : Nat, s < tn ∧ Jz (z + 20) (40 * t + i) = lN s) ∧ ni_take_14 2000 J x ty (nI tn) f (nI k) I = some (.inl (-3, I1)) ∧ r_noNight_28 2000 Iz Jz z (nI t) g2 g (nI k) = some (.inl (-3))) ∨ (ni_take_14 2000 J x ty (nI tn) f (nI k) I = some (.inr (nI m, I1)) ∧ r_noNight_28 2000 Iz Jz z (nI t) g2 g (nI k) = some (.inr (nI m)) ∧ ∀ i, k ≤ i → i < m → ∃ s : Nat, s < tn ∧ Jz (z + 20) (40 * t + i) = lN s ∧ I1 (x + 109) i = nI s)) := by
  intro j
  induction j with
  | zero =>
    intro k f g I hk hf hg h1
    obtain ⟨f, rfl⟩ : ∃ f', f = f' + 1 := ⟨f - 1, by omega⟩
    obtain ⟨g, rfl⟩ : ∃ f', g = f' + 1 := ⟨g - 1, by omega⟩
    obtain rfl : k = m := by omega
    refine ⟨I, fun _ _ => rfl, fun _ _ => rfl, Or.inr ⟨?_, ?_, fun i a1 a2 => by omega⟩⟩
    · rw [ni_take_14, h1, if_pos (nI_le (Nat.le_refl _) (by omega))]
    · rw [r_noNight_28, chk_nI ht (by decide), nI_cl (by omega), h19, if_pos (nI_le (Nat.le_refl _) (by omega))]
  | succ j ih =>
    intro k f g I hk hf hg h1
    obtain ⟨f, rfl⟩ : ∃ f', f = f' + 1 := ⟨f - 1, by omega⟩
    obtain ⟨g, rfl⟩ : ∃ f', g = f' + 1 := ⟨g - 1, by omega⟩
    rw [ni_take_14, h1, if_neg (nI_ge (by omega) (by omega)), chk_nI (by omega) (by decide), nI_cl (by omega), hJ k (by omega)]
    rw [r_noNight_28, chk_nI ht (by decide), nI_cl (by omega), h19, if_neg (nI_ge (by omega) (by omega)), show (40 : Int32) * nI t = nI (40 * t) from pk_mul 40 t, nI_add, chk_nI (by omega) (by decide), nI_cl (by omega), isTune_l hz2 h4, Option.bind_some]
    try dsimp only
    by_cases hs : ∃ s : Nat, s < tn ∧ Jz (z + 20) (40 * t + k) = lN s
    · have hl := (lt_tune (s := Jz (z + 20) (40 * t + k)) h4).mpr hs
      rw [if_pos hs, if_neg (show ¬ (1 : Int32) = 0 by decide), if_neg hl.1, if_pos hl.2, chk_nI (by omega) (by decide)]
      obtain ⟨s, hs1, hs2⟩ := hs
      rw [hs2, lN_i, nI_1]
      obtain ⟨I1, q1, q2, q3⟩ := ih (k + 1) f g (uI I (x + 109) k (nI s)) (by omega) (by omega) (by omega) (by rw [uI_row _ _ _ _ _ hty]; exact h1)
      have ek : I1 (x + 109) k = nI s := by rw [q2 k (by omega), uI_e]
      refine ⟨I1, fun q hq => by rw [q1 q hq, uI_row _ _ _ _ _ hq], fun i hi => by rw [q2 i (by omega), uI_k _ _ _ _ _ (by omega)], ?_⟩
      rcases q3 with ⟨⟨i, b1, b2, b3⟩, b4, b5⟩ | ⟨b1, b2, b3⟩
      · exact Or.inl ⟨⟨i, by omega, b2, b3⟩, b4, b5⟩
      · refine Or.inr ⟨b1, b2, fun i a1 a2 => ?_⟩
        by_cases e : i = k
        · subst e
          exact ⟨s, hs1, hs2, ek⟩
        · exact b3 i (by omega) a2
    · rw [if_neg hs, if_pos (show (0 : Int32) = 0 from rfl)]
      refine ⟨I, fun _ _ => rfl, fun _ _ => rfl, Or.inl ⟨⟨k, Nat.le_refl _, by omega, hs⟩, ?_, rfl⟩⟩
      by_cases c0 : lg_cmp (Jz (z + 20) (40 * t + k)) 0 < 0
      · rw [if_pos c0]
      · rw [if_neg c0, if_neg (fun cc => hs ((lt_tune h4).mp ⟨c0, cc⟩))]
theorem Kx108 {I1 : Nat → Nat → Int32} (h : ∀ q, q ≠ x + 108 → q ≠ x + 109 → I1 q = I q) (h2 : ∀ k, k ≠ 1 → I1 (x + 108) k = I (x + 108) k) : KeepX I I1 x c ∧ KeepM I I1 x :=
  ⟨KeepX.of (fun q hq => h q (fun cc => hq (by unfold Scr; omega)) (fun cc => hq (by unfold Scr; omega))) (h _ (by omega) (by omega)) (h _ (by omega) (by omega)), ⟨h _ (by omega) (by omega), h _ (by omega) (by omega), h _ (by omega) (by omega), h _ (by omega) (by omega), h _ (by omega) (by omega), h _ (by omega) (by omega), h _ (by omega) (by omega), h2 4 (by decide), by rw [h _ (by omega) (by omega)], by rw [h _ (by omega) (by omega)]⟩⟩
/-- what reading a night leaves -/
def Rdn (I I1 : Nat → Nat → Int32) (x : Nat) (Iz : Nat → Nat → Int32) (Jz : Nat → Nat → Int64) (z t tn : Nat) (w : Int32) : Prop := (∀ q, q ≠ x + 108 → q ≠ x + 109 → I1 q = I q) ∧ (∀ k, k ≠ 1 → I1 (x + 108) k = I (x + 108) k) ∧ (w = 0 → ∃ m tl, Ngt I1 x Iz Jz z t m tn tl)
theorem readTunes_is (h : InvS T I J P x nn c Iz Jz z N n u tn LT LP d na v) {Iz1 : Nat → Nat → Int32} (hz : KeepZ Iz Iz1 z) {t : Nat} (ht : t < 4) : ∃ w I1, x_readTunes 2000 I J x c (nI t) = some (w, I1) ∧ r_noNight 2000 Iz1 Jz z (nI t) = some w ∧ Rdn I I1 x Iz1 Jz z t tn w := by
  obtain ⟨z1, z2, z3, z18, z19, -⟩ := hz
  obtain ⟨m, t1, t2, t3, t4, t5⟩ := h.2.2.2.1 t ht
  have h4 := h.t4
  unfold x_readTunes r_noNight
  rw [chk_nI ht (by decide), nI_cl (by omega), missing_is t4, rnoTray_ok ht, z18, Option.bind_some]
  by_cases hs : Iz (z + 18) t = -1
  · rw [if_pos hs, if_neg (show ¬ (1 : Int32) = 0 by decide), if_pos hs]
    exact ⟨_, _, rfl, rfl, fun _ _ _ => rfl, fun _ _ => rfl, fun cc => absurd (show (-6 : Int32) = 0 from cc) (by decide)⟩
  rw [if_neg hs, if_pos rfl, if_neg hs, if_pos (show (0 : Int32) = 0 from rfl), chk_nI ht (by decide), z19, t2]
  unfold ni_take
  rw [t3, h.c1]
  by_cases hm : m ≤ 30
  · have hm2 : nI m ≤ (30 : Int32) := nI_le (b := 30) hm (by decide)
    rw [if_pos hm2, if_pos hm2]
    obtain ⟨I1, q1, q2, q3⟩ := take_go (x := x) (g2 := 0) (Iz := Iz1) ht (show x + (135 + 2 * t) ≠ x + 109 by omega) hm h4 (by rw [z1]; exact h.z2) (by rw [z19]; exact t2) t5 m 0 2000 2000 I (by omega) (by omega) (by omega) t3
    rcases q3 with ⟨-, b1, b2⟩ | ⟨b1, b2, b3⟩
    · have b1 : ni_take_14 2000 J x (x + (135 + 2 * t)) (nI tn) 2000 0 I = _ := b1
      have b2 : r_noNight_28 2000 Iz1 Jz z (nI t) 0 2000 0 = _ := b2
      rw [b1, b2]
      exact ⟨_, _, rfl, rfl, fun q a1 a2 => q1 q a2, fun k hk => by show I1 (x + 108) k = _; rw [q1 _ (by omega)], fun cc => absurd (show (-3 : Int32) = 0 from cc) (by decide)⟩
    · have b1 : ni_take_14 2000 J x (x + (135 + 2 * t)) (nI tn) 2000 0 I = _ := b1
      have b2 : r_noNight_28 2000 Iz1 Jz z (nI t) 0 2000 0 = _ := b2
      rw [b1, b2]
      refine ⟨_, _, rfl, rfl, fun q a1 a2 => ?_, fun k hk => ?_, fun _ => ⟨m, fun i => (I1 (x + 109) i).toNatClampNeg, ht, hm, ?_, by rw [z19]; exact t2, fun i hi => ?_⟩⟩
      · show uI I1 (x + 108) 1 _ q = I q
        rw [uI_row _ _ _ _ _ a1, q1 q a2]
      · show uI I1 (x + 108) 1 _ (x + 108) k = I (x + 108) k
        rw [uI_k _ _ _ _ _ hk, q1 _ (by omega)]
      · show uI I1 (x + 108) 1 _ (x + 108) 1 = nI m
        rw [uI_e]
        show I1 (x + (135 + 2 * t)) 1 = nI m
        rw [q1 _ (by omega)]
        exact t3
      · show uI I1 (x + 108) 1 _ (x + 109) i = _ ∧ _
        obtain ⟨s, s1, s2, s3⟩ := b3 i (by omega) hi
        have es : (I1 (x + 109) i).toNatClampNeg = s := by rw [s3, nI_cl (by omega)]
        rw [uI_row _ _ _ _ _ (by omega)]
        show I1 (x + 109) i = nI (I1 (x + 109) i).toNatClampNeg ∧ Jz (z + 20) (40 * t + i) = lN (I1 (x + 109) i).toNatClampNeg ∧ (I1 (x + 109) i).toNatClampNeg < tn
        rw [es]
        exact ⟨s3, s2, s1⟩
  · have hm2 : ¬ nI m ≤ (30 : Int32) := nI_ge (a := 30) (by omega) (by omega)
    rw [if_neg hm2, if_neg hm2]
    exact ⟨_, _, rfl, rfl, fun _ _ _ => rfl, fun _ _ => rfl, fun cc => absurd (show (-4 : Int32) = 0 from cc) (by decide)⟩
end
