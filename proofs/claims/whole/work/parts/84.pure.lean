/-! chances: both sides weigh alike -/
theorem mwt_0 {LT LP : Row → Int32} {n tn u : Nat} {A : Row} {p : Nat} : mwt LT LP n tn 0 u A p = if 0 < n ∧ p = mFs A u n then 1 else 0 := rfl
theorem mwt_s {LT LP : Row → Int32} {n tn j u : Nat} {A : Row} {p : Nat} : mwt LT LP n tn (j + 1) u A p = mws (fun t => od A t * mwt LT LP n tn j (mplay LT LP A n u t).1 (mplay LT LP A n u t).2 p) tn 0 := rfl
theorem mws_s {f : Nat → Nat} {j t : Nat} : mws f (j + 1) t = f t + mws f j (t + 1) := rfl
theorem j_add0 (w : Int64) (o : Nat) : w + lN (o * 0) = w := by
  rw [Nat.mul_zero]
  show w + 0 = w
  exact Int64.add_zero w
section
variable {z n tn : Nat} {LT LP : Row → Int32}
theorem rw_lp (j d kr : Nat) (hd : d + (j + 1) ≤ 6) (hrec : ∀ (e u o : Nat) (Iz : Nat → Nat → Int32) (Jz : Nat → Nat → Int64), e + j < 1000000 → Rz Iz z n u tn LT LP e → Ods (Iz (z + 1)) → ∃ Iz1 Jz1, r_plays1 2000 z kr (nI (d + 1)) (nI (d + 1 + j)) (lN o) Iz Jz = some (Iz1, Jz1) ∧ Fs Iz Iz1 z (d + 1) ∧ Iz1 (z + 1) = Iz (z + 1) ∧ (∀ p, p < 6 → Jz1 (z + 17) p = Jz (z + 17) p + lN (o * mwt LT LP n tn j u (Iz (z + 1)) p)) ∧ ∀ q, q ≠ z + 17 → Jz1 q = Jz q) :
    ∀ (jt t f e u o : Nat) (Iz : Nat → Nat → Int32) (Jz : Nat → Nat → Int64), t + jt = tn → jt < f → e + (j + 1) < 1000000 → Rz Iz z n u tn LT LP e → Ods (Iz (z + 1)) → (∀ k, k < 33 → Iz (z + 10) (33 * d + k) = Iz (z + 1) (32 + k)) →
    ∃ Iz1 Jz1, r_plays1B_37 (r_plays1 2000 z kr) 2000 z (nI d) (nI (d + 1 + j)) (lN o) f (nI t) Iz Jz = some (nI tn, Iz1, Jz1) ∧ Fs Iz Iz1 z d ∧ Iz1 (z + 1) = Iz (z + 1) ∧ (∀ p, p < 6 → Jz1 (z + 17) p = Jz (z + 17) p + lN (o * mws (fun t => od (Iz (z + 1)) t * mwt LT LP n tn j (mplay LT LP (Iz (z + 1)) n u t).1 (mplay LT LP (Iz (z + 1)) n u t).2 p) jt t)) ∧ ∀ q, q ≠ z + 17 → Jz1 q = Jz q := by
  intro jt
  induction jt with
  | zero =>
    intro t f e u o Iz Jz ht hf he hR hO hA
    obtain ⟨f, rfl⟩ : ∃ f', f = f' + 1 := ⟨f - 1, by omega⟩
    obtain rfl : t = tn := by omega
    refine ⟨Iz, Jz, ?_, Fs.rf, rfl, fun p hp => (j_add0 _ o).symm, fun _ _ => rfl⟩
    rw [r_plays1B_37, show Int32.toNatClampNeg 2 = 2 from rfl, hR.2.2.2.1.1, if_pos (nI_le (Nat.le_refl _) (by have := hR.2.2.2.1.2; omega))]
  | succ jt ih =>
    intro t f e u o Iz Jz ht hf he hR hO hA
    obtain ⟨f, rfl⟩ : ∃ f', f = f' + 1 := ⟨f - 1, by omega⟩
    have h4 := hR.2.2.2.1.2
    have hn := hR.1.1
    obtain ⟨o1, o2⟩ := hO t (by omega)
    rw [r_plays1B_37, show Int32.toNatClampNeg 2 = 2 from rfl, hR.2.2.2.1.1, if_neg (nI_ge (by omega) (by omega)), show (22 : Int32) + nI t = nI (22 + t) from nI_add 22 t, chk_nI (show 22 + t < 3891 by omega) (by decide), nI_cl (show 22 + t < 2147483648 by omega), o2]
    by_cases oz : od (Iz (z + 1)) t = 0
    · rw [if_pos (show nI (od (Iz (z + 1)) t) = 0 by rw [oz]; rfl), nI_1]
      obtain ⟨I11, J11, i1, i2, i3, i4, i5⟩ := ih (t + 1) f e u o Iz Jz (by omega) (by omega) he hR hO hA
      refine ⟨I11, J11, i1, i2, i3, fun p hp => ?_, i5⟩
      rw [i4 p hp, mws_s, oz, Nat.zero_mul, Nat.zero_add]
    rw [if_neg (show ¬ nI (od (Iz (z + 1)) t) = 0 from fun cc => oz ((nI_eq (b := 0) (by omega) (by omega)).mp cc))]
    obtain ⟨cnt, I8, p1, p2, p3, p4⟩ := rz_play (t := t) hR (by omega)
    rw [p1, Option.bind_some]
    try dsimp only
    rw [p4.2 _ (show ¬ (32 ≤ 22 + t ∧ 22 + t < 65) by omega), o2, nI_l (show od (Iz (z + 1)) t < 2 ^ 31 by omega), lN_mul, nI_1]
    have O8 := hO.row (A' := I8 (z + 1)) (fun i hi => by rw [p2, mplay_out2 hn (by omega)])
    obtain ⟨I9, J9, r1, r2, r3, r4, r5⟩ := hrec (e + 1) (mplay LT LP (Iz (z + 1)) n u t).1 (o * od (Iz (z + 1)) t) I8 Jz (by omega) p3 O8.1
    rw [p2] at r3 r4
    rw [r1, Option.bind_some]
    try dsimp only
    have a10 : ∀ k, k < 33 * (d + 1) → I9 (z + 10) k = Iz (z + 10) k := fun k hk => by rw [r2.2.2.2.1 k hk, p4.1 _ (by omega) (by omega) (by omega) (by omega) (by omega)]
    obtain ⟨I10, bb1, bb2, bb3⟩ := r_isAheadAgain_is (I := I9) (z := z) (A := Iz (z + 1)) (d := d) (by omega) (fun k hk => by rw [r3, mplay_out2 hn hk]) (fun k hk => by rw [a10 _ (by omega)]; exact hA k hk)
    rw [bb1, Option.bind_some]
    try dsimp only
    have F10 : Fs I9 I10 z (d + 1) := ⟨fun q c0 c1 c2 c3 c4 c5 c6 c7 => bb3 q c1, fun k hk => by rw [bb3 _ (by omega)], fun k hk => by rw [bb2, r3, mplay_out2 hn hk], fun k hk => by rw [bb3 _ (by omega)], fun k hk => by rw [bb3 _ (by omega)]⟩
    have FF : Fs Iz I10 z d := (p4.fs.tr (r2.down (by omega))).tr (F10.down (by omega))
    obtain ⟨I11, J11, i1, i2, i3, i4, i5⟩ := ih (t + 1) f e u o I10 J9 (by omega) (by omega) he (hR.row bb2) (by rw [bb2]; exact hO) (fun k hk => by rw [bb2, bb3 _ (by omega), a10 _ (by omega)]; exact hA k hk)
    rw [bb2] at i3 i4
    refine ⟨I11, J11, by rw [nI_1]; exact i1, FF.tr i2, i3, fun p hp => ?_, fun q hq => by rw [i5 q hq, r5 q hq]⟩
    rw [i4 p hp, r4 p hp, mws_s, Nat.mul_add, ← lN_add, Int64.add_assoc, Nat.mul_assoc]
theorem rweigh_is : ∀ (j d kr e u o : Nat) (Iz : Nat → Nat → Int32) (Jz : Nat → Nat → Int64), d + j ≤ 6 → j < kr → e + j < 1000000 → Rz Iz z n u tn LT LP e → Ods (Iz (z + 1)) →
    ∃ Iz1 Jz1, r_plays1 2000 z kr (nI d) (nI (d + j)) (lN o) Iz Jz = some (Iz1, Jz1) ∧ Fs Iz Iz1 z d ∧ Iz1 (z + 1) = Iz (z + 1) ∧ (∀ p, p < 6 → Jz1 (z + 17) p = Jz (z + 17) p + lN (o * mwt LT LP n tn j u (Iz (z + 1)) p)) ∧ ∀ q, q ≠ z + 17 → Jz1 q = Jz q := by
  intro j
  induction j with
  | zero =>
    intro d kr e u o Iz Jz hd hk he hR hO
    obtain ⟨kr, rfl⟩ : ∃ f', kr = f' + 1 := ⟨kr - 1, by omega⟩
    rw [r_plays1]
    unfold r_plays1B
    rw [Nat.add_zero, if_pos rfl, r_first_is hR.1, Option.bind_some]
    try dsimp only
    unfold mF1
    by_cases n0 : n = 0
    · rw [if_pos n0, if_pos rfl]
      refine ⟨Iz, Jz, rfl, Fs.rf, rfl, fun p hp => ?_, fun _ _ => rfl⟩
      rw [mwt_0, if_neg (by omega), j_add0]
    · have hn := hR.1.1
      have hl := mFs_lt (Iz (z + 1)) u n (by omega)
      rw [if_neg n0, if_neg (show ¬ nI (mFs (Iz (z + 1)) u n) = -1 from fun cc => by
        have := i32_eq.mp cc
        rw [nI_toInt (by omega)] at this
        have k1 : (-1 : Int32).toInt = -1 := rfl
        omega), chk_nI (show mFs (Iz (z + 1)) u n < 6 by omega) (by decide), nI_cl (by omega)]
      refine ⟨Iz, _, rfl, Fs.rf, rfl, fun p hp => ?_, fun q hq => uJ_row _ _ _ _ _ hq⟩
      by_cases e1 : p = mFs (Iz (z + 1)) u n
      · rw [mwt_0, if_pos ⟨by omega, e1⟩, Nat.mul_one, e1, uJ_e]
      · rw [mwt_0, if_neg (fun cc => e1 cc.2), j_add0, uJ_k _ _ _ _ _ e1]
  | succ j ih =>
    intro d kr e u o Iz Jz hd hk he hR hO
    obtain ⟨kr, rfl⟩ : ∃ f', kr = f' + 1 := ⟨kr - 1, by omega⟩
    have h4 := hR.2.2.2.1.2
    rw [r_plays1]
    unfold r_plays1B
    rw [if_neg (show ¬ nI d = nI (d + (j + 1)) from fun cc => by have := (nI_eq (by omega) (by omega)).mp cc; omega)]
    obtain ⟨I1, k1, k2, k3, k4⟩ := r_keepsAhead_is (I := Iz) (z := z) (d := d) (by omega)
    have F1 : Fs Iz I1 z d := ⟨fun q c0 c1 c2 c3 c4 c5 c6 c7 => k4 q c6, fun k hk => by rw [k4 _ (by omega)], fun k hk => by rw [k4 _ (by omega)], k3, fun k hk => by rw [k4 _ (by omega)]⟩
    have e1 : I1 (z + 1) = Iz (z + 1) := k4 _ (by omega)
    obtain ⟨I2, J2, g1, g2, g3, g4, g5⟩ := rw_lp j d kr hd (fun e u o Iz Jz h1 h2 h3 => ih (d + 1) kr e u o Iz Jz (by omega) (by omega) h1 h2 h3) tn 0 2000 e u o I1 Jz (by omega) (by omega) he (hR.row e1) (by rw [e1]; exact hO) (fun k hk => by rw [k2 k hk, e1])
    rw [e1] at g3 g4
    rw [k1, Option.bind_some]
    try dsimp only
    rw [show d + (j + 1) = d + 1 + j by omega]
    have g1 : r_plays1B_37 (r_plays1 2000 z kr) 2000 z (nI d) (nI (d + 1 + j)) (lN o) 2000 0 I1 Jz = _ := g1
    rw [g1]
    exact ⟨I2, J2, rfl, F1.tr g2, g3, fun p hp => by rw [g4 p hp]; rfl, g5⟩
end
section
variable {T : Nat → Option (Nat × Nat)} {P : Nat → Nat → Option Nat} {x c n tn : Nat} {LT LP : Row → Int32}
/-- the powers, and how many minutes, as the class keeps them -/
def Pw (I : Nat → Nat → Int32) (J : Nat → Nat → Int64) (x M S : Nat) : Prop := I (x + 219) 6 = nI M ∧ M ≤ 6 ∧ ∀ k, k ≤ 6 → J (x + 223) k = lN (S ^ k)
theorem Pw.fc {I I1 : Nat → Nat → Int32} {J J1 : Nat → Nat → Int64} {M S d : Nat} (h : Pw I J x M S) (hap : Apx P x c) (hF : Fc I I1 x c d) (hJ : ∀ q, q ≠ x + 222 → J1 q = J q) : Pw I1 J1 x M S := by
  have hcx := hap.1
  obtain ⟨h1, h2, h3⟩ := h
  exact ⟨by rw [hF.1 _ (by omega) (by omega) (by omega) (by omega) (by omega)]; exact h1, h2, fun k hk => by rw [hJ _ (by omega)]; exact h3 k hk⟩
/-- the end of a row of tunes -/
theorem leaf_is {I : Nat → Nat → Int32} {J : Nat → Nat → Int64} {d u o j S : Nat} {A : Row} (hW : Wf A n u) (hR : RS I (x + (158 + 7 * d)) n A false) (hP : Pw I J x (d + j) S) : ∃ J1, ((s_firstInPlace 2000 I (x + (158 + 7 * d))).bind (fun q3 => let u5 := q3; if u5 < 0 then (some (I, J)) else (chk u5 6 (chk ((I (x + 219) 6) - nI d) 7 (let J9 := uJ J (x + 222) (Int32.toNatClampNeg u5) ((J (x + 222) (Int32.toNatClampNeg u5)) + (lN o * (J (x + 223) (Int32.toNatClampNeg ((I (x + 219) 6) - nI d))))); some (I, J9)))))) = some (I, J1) ∧ (∀ p, p < 6 → J1 (x + 222) p = J (x + 222) p + lN (o * (if 0 < n ∧ p = mFs A u n then S ^ j else 0))) ∧ ∀ q, q ≠ x + 222 → J1 q = J q := by
  have hn := hW.1
  obtain ⟨p1, p2, p3⟩ := hP
  rw [s_first_is hW hR, Option.bind_some]
  try dsimp only
  unfold mF1
  by_cases n0 : n = 0
  · rw [if_pos n0, if_pos (show (-1 : Int32) < 0 by decide)]
    refine ⟨J, rfl, fun p hp => ?_, fun _ _ => rfl⟩
    rw [if_neg (by omega), j_add0]
  · have hl := mFs_lt A u n (by omega)
    rw [if_neg n0, if_neg (show ¬ nI (mFs A u n) < 0 from nI_nlt (b := 0) (by omega) (by omega)), chk_nI (show mFs A u n < 6 by omega) (by decide), p1, show nI (d + j) - nI d = nI j by rw [nI_SB (by omega)]; congr 1; omega, chk_nI (show j < 7 by omega) (by decide), nI_cl (show j < 2147483648 by omega), nI_cl (show mFs A u n < 2147483648 by omega), p3 j (by omega), lN_mul]
    refine ⟨_, rfl, fun p hp => ?_, fun q hq => uJ_row _ _ _ _ _ hq⟩
    by_cases e1 : p = mFs A u n
    · rw [if_pos ⟨by omega, e1⟩, e1, uJ_e]
    · rw [if_neg (fun cc => e1 cc.2), j_add0, uJ_k _ _ _ _ _ e1]
theorem cw_lp (hap : Apx P x c) {S : Nat} (j d kr : Nat) (hd : d + (j + 1) ≤ 6) (hrec : ∀ (e u o : Nat) (A : Row) (I : Nat → Nat → Int32) (J : Nat → Nat → Int64), e + j < 1000000 → Cz T I P x c (d + 1) n u tn LT LP A e → Ods A → mws (od A) tn 0 = S → Pw I J x (d + 1 + j) S → ∃ I1 J1, ch_weigh 2000 T P x c kr (nI (d + 1)) (lN o) I J = some (I1, J1) ∧ Fc I I1 x c (d + 1) ∧ I1 (x + 217) = I (x + 217) ∧ (∀ p, p < 6 → J1 (x + 222) p = J (x + 222) p + lN (o * mwt LT LP n tn j u A p)) ∧ ∀ q, q ≠ x + 222 → J1 q = J q) {u e o : Nat} {A : Row} (hO : Ods A) (hS : mws (od A) tn 0 = S) :
    ∀ (jt t f : Nat) (I : Nat → Nat → Int32) (J : Nat → Nat → Int64), t + jt = tn → jt < f → e + (j + 1) < 1000000 → Cz T I P x c d n u tn LT LP A e → Pw I J x (d + 1 + j) S →
    ∃ I1 J1, ch_weighB_70 (ch_weigh 2000 T P x c kr) 2000 T P x c (x + (158 + 7 * d)) (nI d) (lN o) f (nI t) I J = some (nI tn, I1, J1) ∧ Fc I I1 x c d ∧ I1 (x + 217) = I (x + 217) ∧ (∀ p, p < 6 → J1 (x + 222) p = J (x + 222) p + lN (o * mws (fun t => od A t * mwt LT LP n tn j (mplay LT LP A n u t).1 (mplay LT LP A n u t).2 p) jt t)) ∧ ∀ q, q ≠ x + 222 → J1 q = J q := by
  have hcx := hap.1
  intro jt
  induction jt with
  | zero =>
    intro t f I J ht hf he hC hP
    obtain ⟨f, rfl⟩ : ∃ f', f = f' + 1 := ⟨f - 1, by omega⟩
    obtain rfl : t = tn := by omega
    refine ⟨I, J, ?_, Fc.rf, rfl, fun p hp => (j_add0 _ o).symm, fun _ _ => rfl⟩
    rw [ch_weighB_70, hC.2.1.1.2.1, hC.2.2.2.1.1, if_pos (nI_le (Nat.le_refl _) (by have := hC.2.2.2.1.2; omega))]
  | succ jt ih =>
    intro t f I J ht hf he hC hP
    obtain ⟨f, rfl⟩ : ∃ f', f = f' + 1 := ⟨f - 1, by omega⟩
    have h4 := hC.2.2.2.1.2
    have hn := hC.1.1
    obtain ⟨o1, o2⟩ := hO t (by omega)
    have c3 : I (c + 3) t = nI (od A t) := (hC.2.1.1.2.2.2.2.2.1 t (by omega)).1.trans o2
    rw [ch_weighB_70, hC.2.1.1.2.1, hC.2.2.2.1.1, if_neg (nI_ge (by omega) (by omega)), chk_nI (show t < 4 by omega) (by decide), nI_cl (show t < 2147483648 by omega), c3]
    by_cases oz : od A t = 0
    · rw [if_pos (show nI (od A t) ≤ 0 by rw [oz]; decide), nI_1]
      obtain ⟨I11, J11, i1, i2, i3, i4, i5⟩ := ih (t + 1) f I J (by omega) (by omega) he hC hP
      refine ⟨I11, J11, i1, i2, i3, fun p hp => ?_, i5⟩
      rw [i4 p hp, mws_s, oz, Nat.zero_mul, Nat.zero_add]
    rw [if_neg (show ¬ nI (od A t) ≤ 0 from nI_nle (by omega) (by omega)), nI_1, chk_nI (show d + 1 < 8 by omega) (by decide), nI_cl (show d + 1 < 2147483648 by omega)]
    obtain ⟨I8, I9, p1, p2, p3, p4⟩ := cz_play (t := t) hC hap (by omega) (by omega)
    have F9 : Fc I I9 x c d := ⟨fun q a1 a2 a3 a4 a5 => p4 q (by omega) a3 a4 a5, fun k hk => by rw [p4 _ (by omega) (by omega) (by omega) (by omega)]⟩
    rw [p1, Option.bind_some]
    try dsimp only
    rw [p2, Option.bind_some]
    try dsimp only
    have O9 := ods_play (LT := LT) (LP := LP) (u := u) (t := t) hn hO
    rw [p4 _ (show ¬ (x + 165 + 7 * d ≤ c + 3 ∧ c + 3 ≤ x + 171 + 7 * d) by omega) (by omega) (by omega) (by omega), c3, nI_l (show od A t < 2 ^ 31 by omega), lN_mul]
    obtain ⟨I10, J10, r1, r2, r3, r4, r5⟩ := hrec (e + 1) _ (o * od A t) _ I9 J (by omega) p3 O9.1 (by rw [← hS]; exact mws_ext tn 0 (fun k a b => O9.2 k (by omega))) (hP.fc hap F9 (fun _ _ => rfl))
    have FF : Fc I I10 x c d := F9.tr (r2.down (by omega))
    rw [r1, Option.bind_some]
    try dsimp only
    obtain ⟨I11, J11, i1, i2, i3, i4, i5⟩ := ih (t + 1) f I10 J10 (by omega) (by omega) he (hC.fc hap FF (by omega)) (hP.fc hap FF r5)
    refine ⟨I11, J11, by rw [nI_1]; exact i1, FF.tr i2, by rw [i3, r3, p4 _ (by omega) (by omega) (by omega) (by omega)], fun p hp => ?_, fun q hq => by rw [i5 q hq, r5 q hq]⟩
    rw [i4 p hp, r4 p hp, mws_s, Nat.mul_add, ← lN_add, Int64.add_assoc, Nat.mul_assoc]
theorem cweigh_is (hap : Apx P x c) {S : Nat} : ∀ (j d kr e u o : Nat) (A : Row) (I : Nat → Nat → Int32) (J : Nat → Nat → Int64), d + j ≤ 6 → j < kr → e + j < 1000000 → Cz T I P x c d n u tn LT LP A e → Ods A → mws (od A) tn 0 = S → Pw I J x (d + j) S →
    ∃ I1 J1, ch_weigh 2000 T P x c kr (nI d) (lN o) I J = some (I1, J1) ∧ Fc I I1 x c d ∧ I1 (x + 217) = I (x + 217) ∧ (∀ p, p < 6 → J1 (x + 222) p = J (x + 222) p + lN (o * mwt LT LP n tn j u A p)) ∧ ∀ q, q ≠ x + 222 → J1 q = J q := by
  intro j
  induction j with
  | zero =>
    intro d kr e u o A I J hd hk he hC hO hS hP
    obtain ⟨kr, rfl⟩ : ∃ f', kr = f' + 1 := ⟨kr - 1, by omega⟩
    obtain ⟨J1, l1, l2, l3⟩ := leaf_is (o := o) hC.1 hC.2.2.1 hP
    rw [ch_weigh]
    unfold ch_weighB
    rw [chk_nI (show d < 8 by omega) (by decide), if_pos (show I (x + 219) 6 ≤ nI d by rw [hP.1]; exact nI_le (by omega) (by omega)), nI_cl (show d < 2147483648 by omega), l1]
    exact ⟨I, J1, rfl, Fc.rf, rfl, fun p hp => by rw [l2 p hp, mwt_0, Nat.pow_zero], l3⟩
  | succ j ih =>
    intro d kr e u o A I J hd hk he hC hO hS hP
    obtain ⟨kr, rfl⟩ : ∃ f', kr = f' + 1 := ⟨kr - 1, by omega⟩
    have h4 := hC.2.2.2.1.2
    have hu := hC.1.u64
    rw [ch_weigh]
    unfold ch_weighB
    have hup : s_howManyUp I (x + (158 + 7 * d)) = nI (pcn u) := by
      unfold s_howManyUp
      rw [hC.2.2.1.2.1, hC.1.2.2.1]
      exact bitCount_tab u hu
    have hp6 := pcn_le u hu
    rw [chk_nI (show d < 8 by omega) (by decide), if_neg (show ¬ I (x + 219) 6 ≤ nI d by rw [hP.1]; exact nI_ge (by omega) (by omega)), if_neg (show ¬ (6 : Int32) ≤ nI d from nI_ge (b := 6) (by omega) (by decide)), nI_cl (show d < 2147483648 by omega), hup]
    by_cases c2 : 2 ≤ pcn u
    · rw [if_pos (show (2 : Int32) ≤ nI (pcn u) from nI_le (a := 2) c2 (by omega))]
      obtain ⟨I2, J2, g1, g2, g3, g4, g5⟩ := cw_lp (o := o) hap j d kr hd (fun e u o A I J h1 h2 h3 h4 h5 => ih (d + 1) kr e u o A I J (by omega) (by omega) h1 h2 h3 h4 h5) hO hS tn 0 2000 I J (by omega) (by omega) he hC (by rw [show d + 1 + j = d + (j + 1) by omega]; exact hP)
      have g1 : ch_weighB_70 (ch_weigh 2000 T P x c kr) 2000 T P x c (x + (158 + 7 * d)) (nI d) (lN o) 2000 0 I J = _ := g1
      rw [g1]
      exact ⟨I2, J2, rfl, g2, g3, fun p hp => by rw [g4 p hp]; rfl, g5⟩
    · rw [if_neg (show ¬ (2 : Int32) ≤ nI (pcn u) from nI_ge (b := 2) (by omega) (by decide))]
      obtain ⟨J1, l1, l2, l3⟩ := leaf_is (o := o) hC.1 hC.2.2.1 hP
      rw [l1]
      refine ⟨I, J1, rfl, Fc.rf, rfl, fun p hp => ?_, l3⟩
      rw [l2 p hp]
      by_cases n0 : 0 < n
      · rw [mwt_one h4 (j + 1) u e A p he hO hC.1 hC.2.2.2.2.1 hC.2.2.2.2.2 n0 (by omega), hS]
        by_cases e1 : p = mFs A u n
        · rw [if_pos ⟨n0, e1⟩, if_pos e1]
        · rw [if_neg (fun cc => e1 cc.2), if_neg e1]
      · have z0 : ∀ (j u : Nat) (A : Row), mwt LT LP n tn j u A p = 0 := by
          intro j
          induction j with
          | zero => intro u A; rw [mwt_0, if_neg (fun cc => n0 cc.1)]
          | succ j ih2 =>
            intro u A
            rw [mwt_s, mws_ext (g := fun _ => 0 * 0) tn 0 (fun i a b => by rw [ih2, Nat.mul_zero]), mws_mul, Nat.mul_zero]
        rw [z0, if_neg (fun cc => n0 cc.1)]
end
