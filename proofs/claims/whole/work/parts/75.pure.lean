/-! music: the search as a function of rows; the reference's search -/
def mtry (f : Nat → Option (List Nat)) : Nat → Nat → Option (List Nat)
  | 0, _ => none
  | j + 1, t => match f t with
    | some l => some (t :: l)
    | none => mtry f j (t + 1)
def mgo (LT LP : Row → Int32) (n tn : Nat) (go : Nat → Row → Bool) : Nat → Nat → Row → Option (List Nat)
  | 0, u, A => if go u A = true then some [] else none
  | j + 1, u, A => mtry (fun t => mgo LT LP n tn go j (mplay LT LP A n u t).1 (mplay LT LP A n u t).2) tn 0
def mwsum (f : Nat → Int32) : Nat → Nat → Int32
  | 0, _ => 0
  | j + 1, t => f t + mwsum f j (t + 1)
def mcn (LT LP : Row → Int32) (n tn : Nat) (go : Nat → Row → Bool) : Nat → Nat → Row → Int32
  | 0, u, A => b2 (go u A)
  | j + 1, u, A => mwsum (fun t => mcn LT LP n tn go j (mplay LT LP A n u t).1 (mplay LT LP A n u t).2) tn 0
theorem mtry_s {f : Nat → Option (List Nat)} {j t : Nat} {l : List Nat} (h : f t = some l) : mtry f (j + 1) t = some (t :: l) := by
  rw [mtry, h]
theorem mtry_n {f : Nat → Option (List Nat)} {j t : Nat} (h : f t = none) : mtry f (j + 1) t = mtry f j (t + 1) := by
  rw [mtry, h]
/-- the reference's row alone, well made -/
def Rz (Iz : Nat → Nat → Int32) (z n u tn : Nat) (LT LP : Row → Int32) (e : Nat) : Prop := Wf (Iz (z + 1)) n u ∧ RT (Iz (z + 1)) LT ∧ RP (Iz (z + 1)) LP ∧ (Iz (z + 1) 2 = nI tn ∧ tn ≤ 4) ∧ Evb (Iz (z + 1)) n e
theorem rz_play {Iz : Nat → Nat → Int32} {z n u tn t e : Nat} {LT LP : Row → Int32} (h : Rz Iz z n u tn LT LP e) (he : e < 1000000) : ∃ cnt Iz1, r_plays 2000 Iz z (nI t) = some (cnt, Iz1) ∧ Iz1 (z + 1) = (mplay LT LP (Iz (z + 1)) n u t).2 ∧ Rz Iz1 z n (mplay LT LP (Iz (z + 1)) n u t).1 tn LT LP (e + 1) ∧ Fr Iz Iz1 z := by
  obtain ⟨h1, h2, h3, h4, h5⟩ := id h
  have hn := h1.1
  obtain ⟨Iz1, f1, f2, f3⟩ := r_plays_is (tn := t) h1 h2 h3
  have ev := Ev.play (LT := LT) (LP := LP) (t := t) h1 h3 he h5.1 h5.2
  have fr : Fr Iz Iz1 z := ⟨f3, fun k hk => by rw [f2, mplay_out2 hn hk]⟩
  exact ⟨_, Iz1, f1, f2, ⟨by rw [f2]; exact h1.play, h2.same (fun k hk => fr.2 k (by omega)), h3.same (fun k hk => fr.2 k (by omega)), ⟨by rw [fr.2 _ (by omega)]; exact h4.1, h4.2⟩, by rw [f2]; exact ev⟩, fr⟩
theorem Rz.row {Iz Iz1 : Nat → Nat → Int32} {z n u tn e : Nat} {LT LP : Row → Int32} (h : Rz Iz z n u tn LT LP e) (he : Iz1 (z + 1) = Iz (z + 1)) : Rz Iz1 z n u tn LT LP e := by
  unfold Rz
  rw [he]
  exact h
/-- what a search from a depth on leaves as it was -/
def Fs (Iz Iz1 : Nat → Nat → Int32) (z d : Nat) : Prop := (∀ q, q ≠ z → q ≠ z + 1 → q ≠ z + 5 → q ≠ z + 6 → q ≠ z + 8 → q ≠ z + 9 → q ≠ z + 10 → q ≠ z + 11 → Iz1 q = Iz q) ∧ (∀ k, k ≠ 25 → Iz1 z k = Iz z k) ∧ (∀ k, ¬ (32 ≤ k ∧ k < 65) → Iz1 (z + 1) k = Iz (z + 1) k) ∧ (∀ k, k < 33 * d → Iz1 (z + 10) k = Iz (z + 10) k) ∧ ∀ k, k < d → Iz1 (z + 11) k = Iz (z + 11) k
theorem Fs.rf {Iz : Nat → Nat → Int32} {z d : Nat} : Fs Iz Iz z d := ⟨fun _ _ _ _ _ _ _ _ _ => rfl, fun _ _ => rfl, fun _ _ => rfl, fun _ _ => rfl, fun _ _ => rfl⟩
theorem Fs.tr {Iz Iz1 Iz2 : Nat → Nat → Int32} {z d : Nat} (h : Fs Iz Iz1 z d) (h2 : Fs Iz1 Iz2 z d) : Fs Iz Iz2 z d := by
  obtain ⟨a1, a2, a3, a4, a5⟩ := h
  obtain ⟨b1, b2, b3, b4, b5⟩ := h2
  exact ⟨fun q c0 c1 c2 c3 c4 c5 c6 c7 => (b1 q c0 c1 c2 c3 c4 c5 c6 c7).trans (a1 q c0 c1 c2 c3 c4 c5 c6 c7), fun k hk => (b2 k hk).trans (a2 k hk), fun k hk => (b3 k hk).trans (a3 k hk), fun k hk => (b4 k hk).trans (a4 k hk), fun k hk => (b5 k hk).trans (a5 k hk)⟩
theorem Fs.down {Iz Iz1 : Nat → Nat → Int32} {z d d' : Nat} (h : Fs Iz Iz1 z d') (hd : d ≤ d') : Fs Iz Iz1 z d := by
  obtain ⟨a1, a2, a3, a4, a5⟩ := h
  exact ⟨a1, a2, a3, fun k hk => a4 k (by omega), fun k hk => a5 k (by omega)⟩
theorem Fr.fs {Iz Iz1 : Nat → Nat → Int32} {z d : Nat} (h : Fr Iz Iz1 z) : Fs Iz Iz1 z d :=
  ⟨fun q c0 c1 c2 c3 c4 c5 c6 c7 => h.1 q c1 c2 c3 c4 c5, fun k hk => by rw [h.1 _ (by omega) (by omega) (by omega) (by omega) (by omega)], h.2, fun k hk => by rw [h.1 _ (by omega) (by omega) (by omega) (by omega) (by omega)], fun k hk => by rw [h.1 _ (by omega) (by omega) (by omega) (by omega) (by omega)]⟩
theorem Fs.keep {Iz Iz1 : Nat → Nat → Int32} {z d : Nat} (h : Fs Iz Iz1 z d) (h1 : Iz1 (z + 1) = Iz (z + 1)) : KeepZ Iz Iz1 z := by
  obtain ⟨a1, a2, -⟩ := h
  exact ⟨h1, a1 _ (by omega) (by omega) (by omega) (by omega) (by omega) (by omega) (by omega) (by omega), a1 _ (by omega) (by omega) (by omega) (by omega) (by omega) (by omega) (by omega) (by omega), a1 _ (by omega) (by omega) (by omega) (by omega) (by omega) (by omega) (by omega) (by omega), a1 _ (by omega) (by omega) (by omega) (by omega) (by omega) (by omega) (by omega) (by omega), a2 _ (by decide), a2 _ (by decide), a2 _ (by decide)⟩
theorem ahead_go {z d : Nat} (hd : d ≤ 7) : ∀ (j k f : Nat) (I : Nat → Nat → Int32) (W : Row), k + j = 33 → j < f → I (z + 10) = cpy W (I (z + 1)) (33 * d) 32 k → ∃ I1, r_keepsAhead_2 2000 z (nI d) f (nI k) I = some (nI 33, I1) ∧ I1 (z + 10) = cpy W (I (z + 1)) (33 * d) 32 33 ∧ ∀ q, q ≠ z + 10 → I1 q = I q := by
  intro j
  induction j with
  | zero =>
    intro k f I W hk hf h
    obtain ⟨f, rfl⟩ : ∃ f', f = f' + 1 := ⟨f - 1, by omega⟩
    obtain rfl : k = 33 := by omega
    refine ⟨I, ?_, h, fun _ _ => rfl⟩
    rw [r_keepsAhead_2, if_pos (show (33 : Int32) ≤ nI 33 by decide)]
  | succ j ih =>
    intro k f I W hk hf h
    obtain ⟨f, rfl⟩ : ∃ f', f = f' + 1 := ⟨f - 1, by omega⟩
    rw [r_keepsAhead_2, if_neg (show ¬ (33 : Int32) ≤ nI k from nI_ge (b := 33) (by omega) (by decide)), show (32 : Int32) + nI k = nI (32 + k) from nI_add 32 k, show (33 : Int32) * nI d = nI (33 * d) from pk_mul 33 d, nI_add, chk_nI (show 32 + k < 3891 by omega) (by decide), chk_nI (show 33 * d + k < 264 by omega) (by decide), nI_cl (show 33 * d + k < 2147483648 by omega), nI_cl (show 32 + k < 2147483648 by omega), nI_1]
    have r1 : uI I (z + 10) (33 * d + k) (I (z + 1) (32 + k)) (z + 1) = I (z + 1) := uI_row _ _ _ _ _ (by omega)
    obtain ⟨I1, e1, e2, e3⟩ := ih (k + 1) f (uI I (z + 10) (33 * d + k) (I (z + 1) (32 + k))) W (by omega) (by omega) (by rw [r1, uI_s, h]; exact cpy_suc rfl)
    exact ⟨I1, e1, by rw [e2, r1], fun q hq => by rw [e3 q hq, uI_row _ _ _ _ _ hq]⟩
theorem r_keepsAhead_is {I : Nat → Nat → Int32} {z d : Nat} (hd : d ≤ 7) : ∃ I1, r_keepsAhead 2000 I z (nI d) = some I1 ∧ (∀ k, k < 33 → I1 (z + 10) (33 * d + k) = I (z + 1) (32 + k)) ∧ (∀ k, k < 33 * d → I1 (z + 10) k = I (z + 10) k) ∧ ∀ q, q ≠ z + 10 → I1 q = I q := by
  obtain ⟨I1, e1, e2, e3⟩ := ahead_go (z := z) hd 33 0 2000 I (I (z + 10)) (by omega) (by omega) cpy_0.symm
  have e1 : r_keepsAhead_2 2000 z (nI d) 2000 0 I = _ := e1
  unfold r_keepsAhead
  rw [e1, Option.bind_some]
  refine ⟨I1, rfl, fun k hk => ?_, fun k hk => ?_, e3⟩
  · rw [e2, cpy_in (by omega), show 32 + (33 * d + k - 33 * d) = 32 + k by omega]
  · rw [e2, cpy_out (by omega)]
theorem again_go {z d : Nat} (hd : d ≤ 7) : ∀ (j k f : Nat) (I : Nat → Nat → Int32) (A : Row), k + j = 33 → j < f → I (z + 1) = cpy A (I (z + 10)) 32 (33 * d) k → ∃ I1, r_isAheadAgain_2 2000 z (nI d) f (nI k) I = some (nI 33, I1) ∧ I1 (z + 1) = cpy A (I (z + 10)) 32 (33 * d) 33 ∧ ∀ q, q ≠ z + 1 → I1 q = I q := by
  intro j
  induction j with
  | zero =>
    intro k f I W hk hf h
    obtain ⟨f, rfl⟩ : ∃ f', f = f' + 1 := ⟨f - 1, by omega⟩
    obtain rfl : k = 33 := by omega
    refine ⟨I, ?_, h, fun _ _ => rfl⟩
    rw [r_isAheadAgain_2, if_pos (show (33 : Int32) ≤ nI 33 by decide)]
  | succ j ih =>
    intro k f I W hk hf h
    obtain ⟨f, rfl⟩ : ∃ f', f = f' + 1 := ⟨f - 1, by omega⟩
    rw [r_isAheadAgain_2, if_neg (show ¬ (33 : Int32) ≤ nI k from nI_ge (b := 33) (by omega) (by decide)), show (32 : Int32) + nI k = nI (32 + k) from nI_add 32 k, show (33 : Int32) * nI d = nI (33 * d) from pk_mul 33 d, nI_add, chk_nI (show 33 * d + k < 264 by omega) (by decide), chk_nI (show 32 + k < 3891 by omega) (by decide), nI_cl (show 33 * d + k < 2147483648 by omega), nI_cl (show 32 + k < 2147483648 by omega), nI_1]
    have r1 : uI I (z + 1) (32 + k) (I (z + 10) (33 * d + k)) (z + 10) = I (z + 10) := uI_row _ _ _ _ _ (by omega)
    obtain ⟨I1, e1, e2, e3⟩ := ih (k + 1) f (uI I (z + 1) (32 + k) (I (z + 10) (33 * d + k))) W (by omega) (by omega) (by rw [r1, uI_s, h]; exact cpy_suc rfl)
    exact ⟨I1, e1, by rw [e2, r1], fun q hq => by rw [e3 q hq, uI_row _ _ _ _ _ hq]⟩
theorem r_isAheadAgain_is {I : Nat → Nat → Int32} {z d : Nat} {A : Row} (hd : d ≤ 7) (ho : ∀ k, ¬ (32 ≤ k ∧ k < 65) → I (z + 1) k = A k) (ha : ∀ k, k < 33 → I (z + 10) (33 * d + k) = A (32 + k)) : ∃ I1, r_isAheadAgain 2000 I z (nI d) = some I1 ∧ I1 (z + 1) = A ∧ ∀ q, q ≠ z + 1 → I1 q = I q := by
  obtain ⟨I1, e1, e2, e3⟩ := again_go (z := z) hd 33 0 2000 I (I (z + 1)) (by omega) (by omega) cpy_0.symm
  have e1 : r_isAheadAgain_2 2000 z (nI d) 2000 0 I = _ := e1
  unfold r_isAheadAgain
  rw [e1, Option.bind_some]
  refine ⟨I1, rfl, ?_, e3⟩
  rw [e2]
  funext k
  by_cases hk : 32 ≤ k ∧ k < 65
  · rw [cpy_in (by omega), ha (k - 32) (by omega), show 32 + (k - 32) = k by omega]
  · rw [cpy_out (by omega), ho k hk]
section
variable {Jz : Nat → Nat → Int64} {z n tn : Nat} {LT LP : Row → Int32} {v1 : Int32} {go : Nat → Row → Bool} {Iz0 : Nat → Nat → Int32}
/-- the question at the end of a row of tunes -/
def Asks (Iz0 : Nat → Nat → Int32) (Jz : Nat → Nat → Int64) (z n tn : Nat) (LT LP : Row → Int32) (v1 : Int32) (go : Nat → Row → Bool) : Prop := ∀ Iz', Fs Iz0 Iz' z 0 → ∀ u e, Rz Iz' z n u tn LT LP e → r_isMusic 2000 Iz' Jz z v1 = some (b2 (go u (Iz' (z + 1))))
theorem seek_lp (j d kr : Nat) (hd : d + (j + 1) ≤ 7) (hrec : ∀ (e u : Nat) (Iz : Nat → Nat → Int32), e + j < 1000000 → Fs Iz0 Iz z 0 → Rz Iz z n u tn LT LP e → ∃ Iz1, r_seeks 2000 Jz z kr v1 (nI (d + 1)) (nI (d + 1 + j)) 0 Iz = some (b2 (mgo LT LP n tn go j u (Iz (z + 1))).isSome, Iz1) ∧ Fs Iz Iz1 z (d + 1) ∧ Iz1 (z + 1) = Iz (z + 1) ∧ ∀ l, mgo LT LP n tn go j u (Iz (z + 1)) = some l → ∀ i, i < j → Iz1 (z + 11) (d + 1 + i) = nI (l.getD i 0)) :
    ∀ (jt t f e u : Nat) (Iz : Nat → Nat → Int32), t + jt = tn → jt < f → e + (j + 1) < 1000000 → Fs Iz0 Iz z 0 → Rz Iz z n u tn LT LP e → (∀ k, k < 33 → Iz (z + 10) (33 * d + k) = Iz (z + 1) (32 + k)) →
    ∃ Iz1, ((mtry (fun t => mgo LT LP n tn go j (mplay LT LP (Iz (z + 1)) n u t).1 (mplay LT LP (Iz (z + 1)) n u t).2) jt t = none ∧ r_seeksB_55 (r_seeks 2000 Jz z kr) 2000 z v1 (nI d) (nI (d + 1 + j)) 0 f (nI t) Iz = some (.inr (nI tn, Iz1))) ∨ (∃ l, mtry (fun t => mgo LT LP n tn go j (mplay LT LP (Iz (z + 1)) n u t).1 (mplay LT LP (Iz (z + 1)) n u t).2) jt t = some l ∧ r_seeksB_55 (r_seeks 2000 Jz z kr) 2000 z v1 (nI d) (nI (d + 1 + j)) 0 f (nI t) Iz = some (.inl (1, Iz1)) ∧ ∀ i, i < j + 1 → Iz1 (z + 11) (d + i) = nI (l.getD i 0))) ∧ Fs Iz Iz1 z d ∧ Iz1 (z + 1) = Iz (z + 1) := by
  intro jt
  induction jt with
  | zero =>
    intro t f e u Iz ht hf he hF hR hA
    obtain ⟨f, rfl⟩ : ∃ f', f = f' + 1 := ⟨f - 1, by omega⟩
    obtain rfl : t = tn := by omega
    refine ⟨Iz, Or.inl ⟨rfl, ?_⟩, Fs.rf, rfl⟩
    rw [r_seeksB_55, show Int32.toNatClampNeg 2 = 2 from rfl, hR.2.2.2.1.1, if_pos (nI_le (Nat.le_refl _) (by have := hR.2.2.2.1.2; omega))]
  | succ jt ih =>
    intro t f e u Iz ht hf he hF hR hA
    obtain ⟨f, rfl⟩ : ∃ f', f = f' + 1 := ⟨f - 1, by omega⟩
    have h4 := hR.2.2.2.1.2
    rw [r_seeksB_55, show Int32.toNatClampNeg 2 = 2 from rfl, hR.2.2.2.1.1, if_neg (nI_ge (by omega) (by omega)), chk_nI (show d < 8 by omega) (by decide), nI_cl (show d < 2147483648 by omega)]
    try dsimp only
    generalize hI7 : uI Iz (z + 11) d (nI t) = I7
    have o7 : ∀ q, q ≠ z + 11 → I7 q = Iz q := fun q hq => by rw [← hI7, uI_row _ _ _ _ _ hq]
    have e7 : I7 (z + 1) = Iz (z + 1) := o7 _ (by omega)
    have F7 : Fs Iz I7 z d := ⟨fun q c0 c1 c2 c3 c4 c5 c6 c7 => o7 q c7, fun k hk => by rw [o7 _ (by omega)], fun k hk => by rw [e7], fun k hk => by rw [o7 _ (by omega)], fun k hk => by rw [← hI7, uI_k _ _ _ _ _ (by omega)]⟩
    obtain ⟨cnt, I8, p1, p2, p3, p4⟩ := rz_play (t := t) (hR.row e7) (by omega)
    rw [e7] at p2 p3
    obtain ⟨I9, r1, r2, r3, r4⟩ := hrec (e + 1) (mplay LT LP (Iz (z + 1)) n u t).1 I8 (by omega) ((hF.tr (F7.down (by omega))).tr p4.fs) p3
    rw [p2] at r1 r3 r4
    rw [p1, Option.bind_some]
    try dsimp only
    rw [nI_1, r1, Option.bind_some]
    try dsimp only
    have a10 : ∀ k, k < 33 * (d + 1) → I9 (z + 10) k = Iz (z + 10) k := fun k hk => by rw [r2.2.2.2.1 k hk, p4.1 _ (by omega) (by omega) (by omega) (by omega) (by omega), o7 _ (by omega)]
    obtain ⟨I10, bb1, bb2, bb3⟩ := r_isAheadAgain_is (I := I9) (z := z) (A := Iz (z + 1)) (d := d) (by omega) (fun k hk => by rw [r3, mplay_out2 hR.1.1 hk]) (fun k hk => by rw [a10 _ (by omega)]; exact hA k hk)
    rw [bb1, Option.bind_some]
    try dsimp only
    have F10 : Fs I9 I10 z (d + 1) := ⟨fun q c0 c1 c2 c3 c4 c5 c6 c7 => bb3 q c1, fun k hk => by rw [bb3 _ (by omega)], fun k hk => by rw [bb2, r3, mplay_out2 hR.1.1 hk], fun k hk => by rw [bb3 _ (by omega)], fun k hk => by rw [bb3 _ (by omega)]⟩
    have FF : Fs Iz I10 z d := ((F7.tr p4.fs).tr (r2.down (by omega))).tr (F10.down (by omega))
    have v11 : I10 (z + 11) d = nI t := by rw [bb3 _ (by omega), r2.2.2.2.2 d (by omega), p4.1 _ (by omega) (by omega) (by omega) (by omega) (by omega), ← hI7, uI_e]
    cases hg : mgo LT LP n tn go j (mplay LT LP (Iz (z + 1)) n u t).1 (mplay LT LP (Iz (z + 1)) n u t).2 with
    | some l =>
      rw [show b2 (some l).isSome = 1 from rfl, if_neg (show ¬ (1 : Int32) = 0 by decide)]
      refine ⟨I10, Or.inr ⟨t :: l, mtry_s hg, rfl, fun i hi => ?_⟩, FF, bb2⟩
      cases i with
      | zero => exact v11
      | succ i =>
        rw [bb3 _ (by omega), show d + (i + 1) = d + 1 + i by omega, r4 l hg i (by omega)]
        rfl
    | none =>
      rw [show b2 (none : Option (List Nat)).isSome = 0 from rfl, if_pos rfl]
      have m1 := mtry_n (f := fun t => mgo LT LP n tn go j (mplay LT LP (Iz (z + 1)) n u t).1 (mplay LT LP (Iz (z + 1)) n u t).2) (j := jt) (t := t) hg
      obtain ⟨I11, i1, i2, i3⟩ := ih (t + 1) f e u I10 (by omega) (by omega) he (hF.tr (FF.down (by omega))) (hR.row bb2) (fun k hk => by rw [bb2, bb3 _ (by omega), a10 _ (by omega)]; exact hA k hk)
      rw [bb2] at i1 i3
      refine ⟨I11, ?_, FF.tr i2, i3⟩
      rw [m1, nI_1]
      exact i1
theorem seek_is (hq : Asks Iz0 Jz z n tn LT LP v1 go) : ∀ (j d kr e u : Nat) (Iz : Nat → Nat → Int32), d + j ≤ 7 → j < kr → e + j < 1000000 → Fs Iz0 Iz z 0 → Rz Iz z n u tn LT LP e →
    ∃ Iz1, r_seeks 2000 Jz z kr v1 (nI d) (nI (d + j)) 0 Iz = some (b2 (mgo LT LP n tn go j u (Iz (z + 1))).isSome, Iz1) ∧ Fs Iz Iz1 z d ∧ Iz1 (z + 1) = Iz (z + 1) ∧ ∀ l, mgo LT LP n tn go j u (Iz (z + 1)) = some l → ∀ i, i < j → Iz1 (z + 11) (d + i) = nI (l.getD i 0) := by
  intro j
  induction j with
  | zero =>
    intro d kr e u Iz hd hk he hF hR
    obtain ⟨kr, rfl⟩ : ∃ f', kr = f' + 1 := ⟨kr - 1, by omega⟩
    rw [r_seeks]
    unfold r_seeksB
    rw [Nat.add_zero, if_pos rfl, hq Iz hF u e hR, Option.bind_some]
    try dsimp only
    have F1 : ∀ w, Fs Iz (uI Iz z 25 w) z d := fun w => ⟨fun q c0 c1 c2 c3 c4 c5 c6 c7 => uI_row _ _ _ _ _ c0, fun k hk => uI_k _ _ _ _ _ hk, fun k hk => by rw [uI_row _ _ _ _ _ (by omega)], fun k hk => by rw [uI_row _ _ _ _ _ (by omega)], fun k hk => by rw [uI_row _ _ _ _ _ (by omega)]⟩
    unfold mgo
    cases hg : go u (Iz (z + 1)) with
    | false =>
      rw [if_pos (show b2 false = 0 from rfl), if_pos (show b2 false = 0 from rfl), if_neg (show ¬ false = true by decide)]
      exact ⟨_, rfl, F1 _, uI_row _ _ _ _ _ (by omega), fun l hl i hi => by omega⟩
    | true =>
      rw [if_neg (show ¬ b2 true = 0 by decide), if_neg (show ¬ b2 true = 0 by decide), if_pos rfl, if_pos rfl]
      exact ⟨_, rfl, F1 _, uI_row _ _ _ _ _ (by omega), fun l hl i hi => by omega⟩
  | succ j ih =>
    intro d kr e u Iz hd hk he hF hR
    obtain ⟨kr, rfl⟩ : ∃ f', kr = f' + 1 := ⟨kr - 1, by omega⟩
    have h4 := hR.2.2.2.1.2
    rw [r_seeks]
    unfold r_seeksB
    rw [if_neg (show ¬ nI d = nI (d + (j + 1)) from fun cc => by have := (nI_eq (by omega) (by omega)).mp cc; omega)]
    obtain ⟨I1, k1, k2, k3, k4⟩ := r_keepsAhead_is (I := Iz) (z := z) (d := d) (by omega)
    have F1 : Fs Iz I1 z d := ⟨fun q c0 c1 c2 c3 c4 c5 c6 c7 => k4 q c6, fun k hk => by rw [k4 _ (by omega)], fun k hk => by rw [k4 _ (by omega)], k3, fun k hk => by rw [k4 _ (by omega)]⟩
    have e1 : I1 (z + 1) = Iz (z + 1) := k4 _ (by omega)
    obtain ⟨I2, g1, g2, g3⟩ := seek_lp (Iz0 := Iz0) (go := go) (v1 := v1) j d kr hd (fun e u Iz h1 h2 h3 => ih (d + 1) kr e u Iz (by omega) (by omega) h1 h2 h3) tn 0 2000 e u I1 (by omega) (by omega) he (hF.tr (F1.down (by omega))) (hR.row e1) (fun k hk => by rw [k2 k hk, e1])
    rw [e1] at g1 g3
    rw [k1, Option.bind_some]
    try dsimp only
    rw [show d + (j + 1) = d + 1 + j by omega]
    have em : mgo LT LP n tn go (j + 1) u (Iz (z + 1)) = mtry (fun t => mgo LT LP n tn go j (mplay LT LP (Iz (z + 1)) n u t).1 (mplay LT LP (Iz (z + 1)) n u t).2) tn 0 := rfl
    rw [em]
    rcases g1 with ⟨m1, m2⟩ | ⟨l, m1, m2, m3⟩
    · have m2 : r_seeksB_55 (r_seeks 2000 Jz z kr) 2000 z v1 (nI d) (nI (d + 1 + j)) 0 2000 0 I1 = _ := m2
      rw [m1, m2]
      exact ⟨I2, rfl, F1.tr g2, g3, fun l hl => by cases hl⟩
    · have m2 : r_seeksB_55 (r_seeks 2000 Jz z kr) 2000 z v1 (nI d) (nI (d + 1 + j)) 0 2000 0 I1 = _ := m2
      rw [m1, m2]
      refine ⟨I2, rfl, F1.tr g2, g3, fun l' hl => ?_⟩
      injection hl with hl
      subst hl
      exact m3
end
