/-! music: the reference counts; the shortest of all -/
section
variable {Jz : Nat → Nat → Int64} {z n tn : Nat} {LT LP : Row → Int32} {v1 : Int32} {go : Nat → Row → Bool} {Iz0 : Nat → Nat → Int32}
theorem cnt_lp (j d kr : Nat) (hd : d + (j + 1) ≤ 7) (hrec : ∀ (e u : Nat) (Iz : Nat → Nat → Int32), e + j < 1000000 → Fs Iz0 Iz z 0 → Rz Iz z n u tn LT LP e → ∃ Iz1, r_seeks 2000 Jz z kr v1 (nI (d + 1)) (nI (d + 1 + j)) 1 Iz = some (0, Iz1) ∧ Fs Iz Iz1 z (d + 1) ∧ Iz1 (z + 1) = Iz (z + 1) ∧ Iz1 z 25 = Iz z 25 + mcn LT LP n tn go j u (Iz (z + 1))) :
    ∀ (jt t f e u : Nat) (Iz : Nat → Nat → Int32), t + jt = tn → jt < f → e + (j + 1) < 1000000 → Fs Iz0 Iz z 0 → Rz Iz z n u tn LT LP e → (∀ k, k < 33 → Iz (z + 10) (33 * d + k) = Iz (z + 1) (32 + k)) →
    ∃ Iz1, r_seeksB_55 (r_seeks 2000 Jz z kr) 2000 z v1 (nI d) (nI (d + 1 + j)) 1 f (nI t) Iz = some (.inr (nI tn, Iz1)) ∧ Fs Iz Iz1 z d ∧ Iz1 (z + 1) = Iz (z + 1) ∧ Iz1 z 25 = Iz z 25 + mwsum (fun t => mcn LT LP n tn go j (mplay LT LP (Iz (z + 1)) n u t).1 (mplay LT LP (Iz (z + 1)) n u t).2) jt t := by
  intro jt
  induction jt with
  | zero =>
    intro t f e u Iz ht hf he hF hR hA
    obtain ⟨f, rfl⟩ : ∃ f', f = f' + 1 := ⟨f - 1, by omega⟩
    obtain rfl : t = tn := by omega
    refine ⟨Iz, ?_, Fs.rf, rfl, by rw [mwsum, Int32.add_zero]⟩
    rw [r_seeksB_55, show Int32.toNatClampNeg 2 = 2 from rfl, hR.2.2.2.1.1, if_pos (nI_le (Nat.le_refl _) (by have := hR.2.2.2.1.2; omega))]
  | succ jt ih =>
    intro t f e u Iz ht hf he hF hR hA
    obtain ⟨f, rfl⟩ : ∃ f', f = f' + 1 := ⟨f - 1, by omega⟩
    have h4 := hR.2.2.2.1.2
    rw [r_seeksB_55, show Int32.toNatClampNeg 2 = 2 from rfl, hR.2.2.2.1.1, if_neg (nI_ge (by omega) (by omega)), chk_nI (show d < 8 by omega) (by decide), nI_cl (show d < 2147483648 by omega)]
    try dsimp only
    generalize hI7 : uI Iz (z + 11) d (nI t) = I7
    have o7 : ∀ q, q ≠ z + 11 → I7 q = Iz q := fun q hq => by rw [← hI7, uI_row _ _ _ _ _ hq]
    have e7 : I7 (z + 1) = Iz (z + 1) := o7 _ (by omega)
    have F7 : Fs Iz I7 z d := ⟨fun q c0 c1 c2 c3 c4 c5 c6 c7 => o7 q c7, fun k hk => by rw [o7 _ (by omega)], fun k hk => by rw [e7], fun k hk => by rw [o7 _ (by omega)], fun k hk => by rw [← hI7, uI_k _ _ _ _ _ (by omega)]⟩
    obtain ⟨cnt, I8, p1, p2, p3, p4⟩ := rz_play (t := t) (hR.row e7) (by omega)
    rw [e7] at p2 p3
    obtain ⟨I9, r1, r2, r3, r4⟩ := hrec (e + 1) (mplay LT LP (Iz (z + 1)) n u t).1 I8 (by omega) ((hF.tr (F7.down (by omega))).tr p4.fs) p3
    rw [p2] at r3 r4
    rw [p1, Option.bind_some]
    try dsimp only
    rw [nI_1, r1, Option.bind_some]
    try dsimp only
    have a10 : ∀ k, k < 33 * (d + 1) → I9 (z + 10) k = Iz (z + 10) k := fun k hk => by rw [r2.2.2.2.1 k hk, p4.1 _ (by omega) (by omega) (by omega) (by omega) (by omega), o7 _ (by omega)]
    obtain ⟨I10, bb1, bb2, bb3⟩ := r_isAheadAgain_is (I := I9) (z := z) (A := Iz (z + 1)) (d := d) (by omega) (fun k hk => by rw [r3, mplay_out2 hR.1.1 hk]) (fun k hk => by rw [a10 _ (by omega)]; exact hA k hk)
    rw [bb1, Option.bind_some]
    try dsimp only
    have F10 : Fs I9 I10 z (d + 1) := ⟨fun q c0 c1 c2 c3 c4 c5 c6 c7 => bb3 q c1, fun k hk => by rw [bb3 _ (by omega)], fun k hk => by rw [bb2, r3, mplay_out2 hR.1.1 hk], fun k hk => by rw [bb3 _ (by omega)], fun k hk => by rw [bb3 _ (by omega)]⟩
    have FF : Fs Iz I10 z d := ((F7.tr p4.fs).tr (r2.down (by omega))).tr (F10.down (by omega))
    have v25 : I10 z 25 = Iz z 25 + mcn LT LP n tn go j (mplay LT LP (Iz (z + 1)) n u t).1 (mplay LT LP (Iz (z + 1)) n u t).2 := by
      rw [bb3 _ (by omega), r4, p4.1 _ (by omega) (by omega) (by omega) (by omega) (by omega), o7 _ (by omega)]
    rw [if_pos rfl]
    obtain ⟨I11, i1, i2, i3, i4⟩ := ih (t + 1) f e u I10 (by omega) (by omega) he (hF.tr (FF.down (by omega))) (hR.row bb2) (fun k hk => by rw [bb2, bb3 _ (by omega), a10 _ (by omega)]; exact hA k hk)
    rw [bb2] at i3 i4
    refine ⟨I11, by rw [nI_1]; exact i1, FF.tr i2, i3, ?_⟩
    rw [i4, v25, mwsum, Int32.add_assoc]
theorem cnt_is (hq : Asks Iz0 Jz z n tn LT LP v1 go) : ∀ (j d kr e u : Nat) (Iz : Nat → Nat → Int32), d + j ≤ 7 → j < kr → e + j < 1000000 → Fs Iz0 Iz z 0 → Rz Iz z n u tn LT LP e →
    ∃ Iz1, r_seeks 2000 Jz z kr v1 (nI d) (nI (d + j)) 1 Iz = some (0, Iz1) ∧ Fs Iz Iz1 z d ∧ Iz1 (z + 1) = Iz (z + 1) ∧ Iz1 z 25 = Iz z 25 + mcn LT LP n tn go j u (Iz (z + 1)) := by
  intro j
  induction j with
  | zero =>
    intro d kr e u Iz hd hk he hF hR
    obtain ⟨kr, rfl⟩ : ∃ f', kr = f' + 1 := ⟨kr - 1, by omega⟩
    rw [r_seeks]
    unfold r_seeksB
    rw [Nat.add_zero, if_pos rfl, hq Iz hF u e hR, Option.bind_some]
    try dsimp only
    have F1 : ∀ w, Fs Iz (uI Iz z 25 w) z d := fun w => ⟨fun q c0 c1 c2 c3 c4 c5 c6 c7 => uI_row _ _ _ _ _ c0, fun k hk => uI_k _ _ _ _ _ hk, fun k hk => by rw [uI_row _ _ _ _ _ (by omega)], fun k hk => by rw [uI_row _ _ _ _ _ (by omega)], fun k hk => by rw [uI_row _ _ _ _ _ (by omega)]⟩
    unfold mcn
    cases hg : go u (Iz (z + 1)) with
    | false =>
      rw [if_pos (show b2 false = 0 from rfl), if_pos (show b2 false = 0 from rfl)]
      exact ⟨_, rfl, F1 _, uI_row _ _ _ _ _ (by omega), by rw [uI_e]; rfl⟩
    | true =>
      rw [if_neg (show ¬ b2 true = 0 by decide), if_neg (show ¬ b2 true = 0 by decide), if_neg (show ¬ (1 : Int32) = 0 by decide)]
      exact ⟨_, rfl, F1 _, uI_row _ _ _ _ _ (by omega), by rw [uI_e]; rfl⟩
  | succ j ih =>
    intro d kr e u Iz hd hk he hF hR
    obtain ⟨kr, rfl⟩ : ∃ f', kr = f' + 1 := ⟨kr - 1, by omega⟩
    have h4 := hR.2.2.2.1.2
    rw [r_seeks]
    unfold r_seeksB
    rw [if_neg (show ¬ nI d = nI (d + (j + 1)) from fun cc => by have := (nI_eq (by omega) (by omega)).mp cc; omega)]
    obtain ⟨I1, k1, k2, k3, k4⟩ := r_keepsAhead_is (I := Iz) (z := z) (d := d) (by omega)
    have F1 : Fs Iz I1 z d := ⟨fun q c0 c1 c2 c3 c4 c5 c6 c7 => k4 q c6, fun k hk => by rw [k4 _ (by omega)], fun k hk => by rw [k4 _ (by omega)], k3, fun k hk => by rw [k4 _ (by omega)]⟩
    have e1 : I1 (z + 1) = Iz (z + 1) := k4 _ (by omega)
    obtain ⟨I2, g1, g2, g3, g4⟩ := cnt_lp (Iz0 := Iz0) (go := go) (v1 := v1) j d kr hd (fun e u Iz h1 h2 h3 => ih (d + 1) kr e u Iz (by omega) (by omega) h1 h2 h3) tn 0 2000 e u I1 (by omega) (by omega) he (hF.tr (F1.down (by omega))) (hR.row e1) (fun k hk => by rw [k2 k hk, e1])
    rw [e1] at g3 g4
    rw [k1, Option.bind_some]
    try dsimp only
    rw [show d + (j + 1) = d + 1 + j by omega]
    have g1 : r_seeksB_55 (r_seeks 2000 Jz z kr) 2000 z v1 (nI d) (nI (d + 1 + j)) 1 2000 0 I1 = _ := g1
    rw [g1]
    exact ⟨I2, rfl, F1.tr g2, g3, by rw [g4, k4 _ (by omega)]; rfl⟩
/-- the shortest music, from so many tunes on -/
def mshort (LT LP : Row → Int32) (n tn : Nat) (go : Nat → Row → Bool) (u : Nat) (A : Row) : Nat → Nat → Option (List Nat)
  | 0, _ => none
  | j + 1, k => match mgo LT LP n tn go k u A with
    | some l => some l
    | none => mshort LT LP n tn go u A j (k + 1)
theorem mtry_len {f : Nat → Option (List Nat)} {m : Nat} (hf : ∀ t l, f t = some l → l.length = m) : ∀ (j t : Nat) (l : List Nat), mtry f j t = some l → l.length = m + 1
  | 0, t, l, h => by cases h
  | j + 1, t, l, h => by
    unfold mtry at h
    cases hg : f t with
    | some l' =>
      rw [hg] at h
      injection h with h
      rw [← h, List.length_cons, hf t l' hg]
    | none =>
      rw [hg] at h
      exact mtry_len hf j (t + 1) l h
theorem mgo_len : ∀ (j u : Nat) (A : Row) (l : List Nat), mgo LT LP n tn go j u A = some l → l.length = j
  | 0, u, A, l, h => by
    unfold mgo at h
    split at h
    · injection h with h
      rw [← h]; rfl
    · cases h
  | j + 1, u, A, l, h => mtry_len (fun t l' hl => mgo_len j _ _ l' hl) tn 0 l h
theorem mshort_len (u : Nat) (A : Row) : ∀ (j k : Nat) (l : List Nat), mshort LT LP n tn go u A j k = some l → l.length < k + j
  | 0, k, l, h => by cases h
  | j + 1, k, l, h => by
    unfold mshort at h
    cases hg : mgo LT LP n tn go k u A with
    | some l' =>
      rw [hg] at h
      injection h with h
      rw [← h, mgo_len k u A l' hg]
      omega
    | none =>
      rw [hg] at h
      have := mshort_len u A j (k + 1) l h
      omega
/-- how an answer lies in the reference -/
theorem lays_go (hq : Asks Iz0 Jz z n tn LT LP v1 go) {A : Row} {u e : Nat} (he : e < 900000) : ∀ (j k f : Nat) (Iz : Nat → Nat → Int32), k + j = 8 → j < f → Fs Iz0 Iz z 0 → Iz (z + 1) = A → Rz Iz z n u tn LT LP e →
    ∃ Iz1, Fs Iz Iz1 z 0 ∧ Iz1 (z + 1) = A ∧ ((mshort LT LP n tn go u A j k = none ∧ r_laysMusic_2 2000 Jz z v1 f (nI k) Iz = some (.inr (nI 8, Iz1))) ∨ ∃ l, mshort LT LP n tn go u A j k = some l ∧ r_laysMusic_2 2000 Jz z v1 f (nI k) Iz = some (.inl (nI l.length, Iz1)) ∧ ∀ i, i < l.length → Iz1 (z + 11) i = nI (l.getD i 0)) := by
  intro j
  induction j with
  | zero =>
    intro k f Iz hk hf hF hA hR
    obtain ⟨f, rfl⟩ : ∃ f', f = f' + 1 := ⟨f - 1, by omega⟩
    obtain rfl : k = 8 := by omega
    refine ⟨Iz, Fs.rf, hA, Or.inl ⟨rfl, ?_⟩⟩
    rw [r_laysMusic_2, if_pos (show (7 : Int32) < nI 8 by decide)]
  | succ j ih =>
    intro k f Iz hk hf hF hA hR
    obtain ⟨f, rfl⟩ : ∃ f', f = f' + 1 := ⟨f - 1, by omega⟩
    rw [r_laysMusic_2, if_neg (show ¬ (7 : Int32) < nI k from nI_nlt (a := 7) (by omega) (by omega))]
    unfold r_seeksB_f
    obtain ⟨I1, s1, s2, s3, s4⟩ := seek_is hq k 0 10 e u Iz (by omega) (by omega) (by omega) hF hR
    rw [Nat.zero_add] at s1
    have s1 : r_seeks 2000 Jz z 10 v1 0 (nI k) 0 Iz = _ := s1
    rw [s1, Option.bind_some]
    try dsimp only
    rw [hA] at s3 s4 ⊢
    cases hg : mgo LT LP n tn go k u A with
    | some l =>
      rw [show b2 (some l).isSome = 1 from rfl, if_neg (show ¬ (1 : Int32) = 0 by decide)]
      have el := mgo_len k u A l hg
      refine ⟨I1, s2, s3, Or.inr ⟨l, ?_, ?_, fun i hi => ?_⟩⟩
      · rw [mshort, hg]
      · rw [el]
      · have := s4 l hg i (by omega)
        rw [Nat.zero_add] at this
        exact this
    | none =>
      rw [show b2 (none : Option (List Nat)).isSome = 0 from rfl, if_pos rfl, nI_1]
      obtain ⟨I2, i1, i2, i3⟩ := ih (k + 1) f I1 (by omega) (by omega) (hF.tr s2) s3 (hR.row (by rw [s3, hA]))
      refine ⟨I2, s2.tr i1, i2, ?_⟩
      rw [mshort, hg]
      exact i3
/-- the reference's shortest music -/
theorem lays_is {Iz : Nat → Nat → Int32} (hq : Asks Iz Jz z n tn LT LP v1 go) {u e : Nat} (he : e < 900000) (hR : Rz Iz z n u tn LT LP e) :
    ∃ Iz1, KeepZ Iz Iz1 z ∧ Fs Iz Iz1 z 0 ∧ ((mshort LT LP n tn go u (Iz (z + 1)) 8 0 = none ∧ r_laysMusic 2000 Iz Jz z v1 = some (-1, Iz1)) ∨ ∃ l, mshort LT LP n tn go u (Iz (z + 1)) 8 0 = some l ∧ l.length < 8 ∧ r_laysMusic 2000 Iz Jz z v1 = some (nI l.length, Iz1) ∧ ∀ i, i < l.length → Iz1 (z + 11) i = nI (l.getD i 0)) := by
  obtain ⟨I1, f1, f2, f3⟩ := lays_go hq (A := Iz (z + 1)) (u := u) he 8 0 2000 Iz (by omega) (by omega) Fs.rf rfl hR
  refine ⟨I1, f1.keep f2, f1, ?_⟩
  unfold r_laysMusic
  rcases f3 with ⟨g1, g2⟩ | ⟨l, g1, g2, g3⟩
  · have g2 : r_laysMusic_2 2000 Jz z v1 2000 0 Iz = _ := g2
    rw [g2]
    exact Or.inl ⟨g1, rfl⟩
  · have g2 : r_laysMusic_2 2000 Jz z v1 2000 0 Iz = _ := g2
    rw [g2]
    exact Or.inr ⟨l, g1, by have := mshort_len u _ 8 0 l g1; omega, rfl, g3⟩
end
