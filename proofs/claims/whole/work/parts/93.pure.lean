/-! images on both sides -/
theorem Cst.low2 {T : Nat → Option (Nat × Nat)} {I : Nat → Nat → Int32} {P : Nat → Nat → Option Nat} {a c : Nat} {A A' : Row} {n u tn : Nat} {LT LP : Row → Int32} {N : Nat} (h : Cst T I P a c A n u tn LT LP N) (e : ∀ k, k < 65 ∨ (397 ≤ k ∧ k < 1297) → A' k = A k) : Cst T I P a c A' n u tn LT LP N := by
  obtain ⟨h1, h2, h3, h4, h5, h6, h7, h8⟩ := h
  exact ⟨h1, h2.row (e _ (by omega)) (fun k a b => e k (by omega)), h3.same (fun k hk => e k (by omega)), h4.same (fun k hk => e k (by omega)), h5.row (fun k hk => e k (by omega)), h6.row h2.1 (fun k a b => e k (by omega)), ⟨by rw [e _ (by omega)]; exact h7.1, h7.2⟩, h8.row h2.1 (Nat.le_refl _) (fun k a b => e k (by omega))⟩
/-- a court's references are looked at anew -/
theorem Cst.refs {T : Nat → Option (Nat × Nat)} {I : Nat → Nat → Int32} {P P' : Nat → Nat → Option Nat} {a c : Nat} {A : Row} {n u tn : Nat} {LT LP : Row → Int32} {N : Nat} (h : Cst T I P a c A n u tn LT LP N) (hc : isCt T P' c) (h8 : P' c 8 = P c 8) (h9 : P' c 9 = P c 9) : Cst T I P' a c A n u tn LT LP N := by
  obtain ⟨h1, h2, h3, h4, h5, h6⟩ := h
  exact ⟨hc, h2, h3, h4, h5.px h8 h9, h6⟩
theorem Cst.state {T : Nat → Option (Nat × Nat)} {I : Nat → Nat → Int32} {P : Nat → Nat → Option Nat} {a b c : Nat} {A : Row} {n u tn : Nat} {LT LP : Row → Int32} {N : Nat} (h : Cst T I P a c A n u tn LT LP N) (hR : RS I b n A true) : Cst T I P b c A n u tn LT LP N := by
  obtain ⟨h1, h2, h3, h4, h5, h6, h7⟩ := h
  exact ⟨h1, h2, h3, h4, h5, hR, h7⟩
theorem prow_low {A A' : Row} {j k : Nat} (e : ∀ k, k < 1297 → A' k = A k) (hj : j < 10) (hk : k < 1297) : prow A' j k = prow A j k := by
  unfold prow
  by_cases c : 32 ≤ k ∧ k < 32 + 33
  · rw [cpy_in c, cpy_in c, e _ (by omega)]
  · rw [cpy_out c, cpy_out c, e k hk]
theorem PastR.low {I : Nat → Nat → Int32} {x : Nat} {A A' : Row} {n N d na : Nat} (h : PastR I x A n N d na) (hn : n ≤ 6) (e : ∀ k, k < 1297 → A' k = A k) : PastR I x A' n N d na := by
  obtain ⟨h1, h2, h3, h4, h5, h6⟩ := h
  refine ⟨h1, h2, by rw [e _ (by omega)]; exact h3, h4, h5, fun j hj => ?_⟩
  obtain ⟨uj, a1, a2, a3⟩ := h6 j hj
  have pe : ∀ k, k < 1297 → prow A' j k = prow A j k := fun k hk => prow_low e (by omega) hk
  exact ⟨uj, a1.row (pe _ (by omega)) (fun k a b => pe k (by omega)), a2.row hn (fun k a b => pe k (by omega)), a3.row hn (Nat.le_refl _) (fun k a b => pe k (by omega))⟩
theorem PastR.same {I I' : Nat → Nat → Int32} {x : Nat} {A : Row} {n N d na : Nat} (h : PastR I x A n N d na) (e : ∀ q, x + 19 ≤ q → q < x + 91 → I' q = I q) : PastR I' x A n N d na := by
  obtain ⟨h1, h2, h3, h4, h5, h6⟩ := h
  refine ⟨h1, h2, h3, by rw [e _ (by omega) (by omega)]; exact h4, by rw [e _ (by omega) (by omega)]; exact h5, fun j hj => ?_⟩
  obtain ⟨uj, a1, a2, a3⟩ := h6 j hj
  have hm := Nat.mod_lt (na + 10 - d + j) (show 0 < 10 by decide)
  exact ⟨uj, a1, a2.same (fun q b1 b2 => e q (by omega) (by omega)), a3⟩
section
variable {T : Nat → Option (Nat × Nat)} {I : Nat → Nat → Int32} {J : Nat → Nat → Int64} {P : Nat → Nat → Option Nat} {x nn c : Nat} {Iz : Nat → Nat → Int32} {Jz : Nat → Nat → Int64} {z N n u tn : Nat} {LT LP : Row → Int32} {d na v : Nat}
theorem rimg_go {i : Nat} {A : Row} (hi : i < 2) : ∀ (j k f : Nat) (Iz : Nat → Nat → Int32), k + j = 1297 → j < f → Iz (z + 1) = cpy A A (1297 * (i + 1)) 0 k → ∃ Iz1, r_image_20 2000 z (nI i) f (nI k) Iz = some (nI 1297, Iz1) ∧ Iz1 (z + 1) = cpy A A (1297 * (i + 1)) 0 1297 ∧ ∀ q, q ≠ z + 1 → Iz1 q = Iz q := by
  intro j
  induction j with
  | zero =>
    intro k f Iz hk hf h
    obtain ⟨f, rfl⟩ : ∃ f', f = f' + 1 := ⟨f - 1, by omega⟩
    obtain rfl : k = 1297 := by omega
    refine ⟨Iz, ?_, h, fun _ _ => rfl⟩
    rw [r_image_20, if_pos (show (1297 : Int32) ≤ nI 1297 by decide)]
  | succ j ih =>
    intro k f Iz hk hf h
    obtain ⟨f, rfl⟩ : ∃ f', f = f' + 1 := ⟨f - 1, by omega⟩
    rw [r_image_20, if_neg (show ¬ (1297 : Int32) ≤ nI k from nI_ge (b := 1297) (by omega) (by decide)), nI_1, nI_1, show (1297 : Int32) * nI (i + 1) = nI (1297 * (i + 1)) from pk_mul 1297 (i + 1), nI_add]
    simp (disch := omega) only [chk_nI, nI_cl]
    try dsimp only
    have ev : Iz (z + 1) k = A (0 + k) := by rw [h, cpy_out (by omega), Nat.zero_add]
    obtain ⟨I1, e1, e2, e3⟩ := ih (k + 1) f (uI Iz (z + 1) (1297 * (i + 1) + k) (Iz (z + 1) k)) (by omega) (by omega) (by rw [uI_s, h]; exact cpy_suc (by rw [← h]; exact ev))
    exact ⟨I1, e1, e2, fun q hq => by rw [e3 q hq, uI_row _ _ _ _ _ hq]⟩
theorem rres_go {i : Nat} {A : Row} (hi : i < 2) : ∀ (j k f : Nat) (Iz : Nat → Nat → Int32), k + j = 1297 → j < f → Iz (z + 1) = cpy A A 0 (1297 * (i + 1)) k → ∃ Iz1, r_restore_32 2000 z (nI i) f (nI k) Iz = some (nI 1297, Iz1) ∧ Iz1 (z + 1) = cpy A A 0 (1297 * (i + 1)) 1297 ∧ ∀ q, q ≠ z + 1 → Iz1 q = Iz q := by
  intro j
  induction j with
  | zero =>
    intro k f Iz hk hf h
    obtain ⟨f, rfl⟩ : ∃ f', f = f' + 1 := ⟨f - 1, by omega⟩
    obtain rfl : k = 1297 := by omega
    refine ⟨Iz, ?_, h, fun _ _ => rfl⟩
    rw [r_restore_32, if_pos (show (1297 : Int32) ≤ nI 1297 by decide)]
  | succ j ih =>
    intro k f Iz hk hf h
    obtain ⟨f, rfl⟩ : ∃ f', f = f' + 1 := ⟨f - 1, by omega⟩
    rw [r_restore_32, if_neg (show ¬ (1297 : Int32) ≤ nI k from nI_ge (b := 1297) (by omega) (by decide)), nI_1, nI_1, show (1297 : Int32) * nI (i + 1) = nI (1297 * (i + 1)) from pk_mul 1297 (i + 1), nI_add]
    simp (disch := omega) only [chk_nI, nI_cl]
    try dsimp only
    have ev : Iz (z + 1) (1297 * (i + 1) + k) = A (1297 * (i + 1) + k) := by rw [h, cpy_out (by omega)]
    obtain ⟨I1, e1, e2, e3⟩ := ih (k + 1) f (uI Iz (z + 1) k (Iz (z + 1) (1297 * (i + 1) + k))) (by omega) (by omega) (by
      rw [uI_s, h]
      have := cpy_suc (A := A) (W := A) (d := 0) (s := 1297 * (i + 1)) (k := k) (v := cpy A A 0 (1297 * (i + 1)) k (1297 * (i + 1) + k)) (by rw [← h]; exact ev)
      rw [Nat.zero_add] at this
      exact this)
    exact ⟨I1, e1, e2, fun q hq => by rw [e3 q hq, uI_row _ _ _ _ _ hq]⟩
theorem two_cases (w : Int32) : ((w < 0 ∨ ¬ w < 2) ∧ r_within (Int32.toInt64 w) 0 1 = 0) ∨ ∃ i : Nat, i < 2 ∧ w = nI i ∧ ¬ w < 0 ∧ w < 2 ∧ r_within (Int32.toInt64 w) 0 1 = 1 := by
  rcases arg_cases w 2 (by decide) with hw | ⟨j, hj, rfl⟩
  · left
    refine ⟨?_, within_bad (n := 2) (by decide) hw⟩
    rcases hw with hw | hw
    · exact Or.inl hw
    · exact Or.inr (Int32.not_lt.mpr hw)
  · exact Or.inr ⟨j, by omega, rfl, nI_nlt (b := 0) (by omega) (by omega), nI_lt (b := 2) (by omega) (by omega), within_ok (n := 2) (by decide) hj⟩
/-- what an image, or a refused call, leaves behind -/
def Img1 (T : Nat → Option (Nat × Nat)) (I I2 : Nat → Nat → Int32) (J : Nat → Nat → Int64) (P2 : Nat → Nat → Option Nat) (x nn c : Nat) (Iz Iz2 : Nat → Nat → Int32) (Jz : Nat → Nat → Int64) (z N n u tn : Nat) (LT LP : Row → Int32) (d na v : Nat) : Prop := isSR T P2 x ∧ P2 x 3 = some c ∧ InvS T I2 J P2 x nn c Iz2 Jz z N n u tn LT LP d na v ∧ KeepM I I2 x ∧ KeepY Iz Iz2 z
theorem image_call (hsr : isSR T P x) (hc3 : P x 3 = some c) (h : InvS T I J P x nn c Iz Jz z N n u tn LT LP d na v) (w : Int32) : ∃ r I2 P2 Iz2, x_image I P x c w = some (r, I2, P2) ∧ r_image 2000 Iz z w = some (r, Iz2) ∧ Img1 T I I2 J P2 x nn c Iz Iz2 Jz z N n u tn LT LP d na v := by
  have hcx := h.apx.1
  have hn := h.n6
  unfold x_image r_image
  try dsimp only
  rcases two_cases w with ⟨hw, ew⟩ | ⟨i, hi, rfl, h1, h2, ew⟩
  · rw [ew, if_pos (show (0 : Int32) = 0 from rfl)]
    have un : Img1 T I I J P x nn c Iz (uI Iz z 0 0) Jz z N n u tn LT LP d na v := ⟨hsr, hc3, h.keep hsr KeepX.rf (fun _ _ => rfl) (fun _ _ _ _ => rfl) KeepZ.thr, KeepM.rf, KeepZ.thr.y⟩
    by_cases c0 : w < 0
    · rw [if_pos c0]
      exact ⟨_, _, _, _, rfl, rfl, un⟩
    · rw [if_neg c0, if_neg (hw.resolve_left c0)]
      exact ⟨_, _, _, _, rfl, rfl, un⟩
  rw [ew, if_neg (show ¬ (1 : Int32) = 0 by decide), if_neg h1, if_pos h2, chk_nI hi (by decide), nI_cl (show i < 2147483648 by omega)]
  obtain ⟨I2, c1, R2, q2⟩ := h.rs.copy (a := x + (143 + 7 * i)) hn h.wf.2.2.2.2 (by omega)
  have z1 : uI Iz z 0 0 (z + 1) = Iz (z + 1) := thr_row (by decide)
  obtain ⟨Iz1, f1, f2, f3⟩ := rimg_go (z := z) (A := Iz (z + 1)) hi 1297 0 2000 (uI Iz z 0 0) (by omega) (by omega) (by rw [z1]; exact cpy_0.symm)
  have f1 : r_image_20 2000 z (nI i) 2000 0 (uI Iz z 0 0) = _ := f1
  rw [c1, f1, Option.bind_some, Option.bind_some]
  try dsimp only
  rw [chk_nI hi (by decide), nar_1]
  refine ⟨_, _, _, _, rfl, rfl, ?_⟩
  generalize hIz2 : uI Iz1 (z + 2) i 1 = Iz2
  generalize hP2 : uP P (x + 92) i (some c) = P2
  have r1 : Iz2 (z + 1) = cpy (Iz (z + 1)) (Iz (z + 1)) (1297 * (i + 1)) 0 1297 := by rw [← hIz2, uI_row _ _ _ _ _ (by omega), f2]
  have low : ∀ k, k < 1297 → Iz2 (z + 1) k = Iz (z + 1) k := fun k hk => by rw [r1, cpy_out (by omega)]
  have z2e : Iz2 (z + 2) i = 1 := by rw [← hIz2, uI_e]
  have z2o : ∀ j, j ≠ i → Iz2 (z + 2) j = Iz (z + 2) j := fun j hj => by rw [← hIz2, uI_k _ _ _ _ _ hj, f3 _ (by omega), thr_row (by decide)]
  have zo : ∀ q, q ≠ z → q ≠ z + 1 → q ≠ z + 2 → Iz2 q = Iz q := fun q a0 a1 a2 => by rw [← hIz2, uI_row _ _ _ _ _ a2, f3 q a1, uI_row _ _ _ _ _ a0]
  have zz : ∀ k, k ≠ 0 → Iz2 z k = Iz z k := fun k hk => by rw [← hIz2, uI_row _ _ _ _ _ (by omega), f3 _ (by omega), uI_k _ _ _ _ _ hk]
  have pe : P2 (x + 92) i = some c := by rw [← hP2]; exact uP_here
  have po : ∀ j, j ≠ i → P2 (x + 92) j = P (x + 92) j := fun j hj => by rw [← hP2, uP_s, va_up_ne _ _ hj]
  have pq : ∀ q, q ≠ x + 92 → P2 q = P q := fun q hq => by rw [← hP2, uP_n _ _ _ hq]
  have hPY : PY x T P P2 := by rw [← hP2]; exact PY.img
  have hsr2 : isSR T P2 x := hsr.py TX.rf hPY
  obtain ⟨g1, g2, g3, g4, g5, g6, g7, g8, g9, g10⟩ := id h
  have lcs : ∀ k, Lc P2 x c k → Lc P x c k := fun k hk => by
    rcases hk with hk | ⟨j, hj, hk⟩
    · exact Or.inl hk
    · by_cases e : j = i
      · subst e
        rw [pe] at hk
        injection hk with hk
        exact Or.inl hk.symm
      · rw [po j e] at hk
        exact Or.inr ⟨j, hj, hk⟩
  have kne : ∀ k, Lc P x c k → k ≠ x + 92 := fun k hk => by have := (g1 k hk).1.1; omega
  have ct : ∀ k, Lc P x c k → isCt T P k → isCt T P2 k := fun k hk hc => isCt.py hc hsr TX.rf hPY (fun w hw => by
      rw [pq k (kne k hk)] at hw
      exact (hc.2.1 w hw).py hsr TX.rf hPY) (fun w hw => by
      rw [pq k (kne k hk)] at hw
      exact (hc.2.2 w hw).py hsr TX.rf hPY)
  have cst : ∀ (a k : Nat) (A : Row) (n' u' tn' : Nat) (LT' LP' : Row → Int32), Lc P x c k → Cst T I P a k A n' u' tn' LT' LP' N → (∀ q, a ≤ q → q ≤ a + 6 → I2 q = I q) → Cst T I2 P2 a k A n' u' tn' LT' LP' N := fun a k A n' u' tn' LT' LP' hk hC hs => by
    have hkx := (g1 k hk).1
    have hk1 := hkx.1
    refine (hC.same (Nat.le_refl _) (fun q a b => q2 q (by omega)) (fun w hw => ?_) hs).refs (ct k hk hC.1) (by rw [pq k (kne k hk)]) (by rw [pq k (kne k hk)])
    have := hkx.2.2 w hw
    exact q2 _ (by omega)
  have hmain := cst (x + 12) c _ _ _ _ _ _ (Or.inl rfl) g2 (fun q a b => q2 q (by omega))
  refine ⟨hsr2, by rw [pq x (by omega)]; exact hc3, ⟨fun k hk => ?_, hmain.low low, (g3.same (fun q a b => q2 q (by omega))).low hn low, fun t ht => ?_, ?_, ?_, fun j hj => ?_, by rw [q2 _ (by omega)]; exact g8, g9, g10⟩, KeepM.of (fun q a b c => q2 q (by omega)), ⟨low, zo _ (by omega) (by omega) (by omega), zo _ (by omega) (by omega) (by omega)⟩⟩
  · have hk := lcs k hk
    have := g1 k hk
    refine ⟨⟨this.1.1, this.1.2.1, fun w ww => this.1.2.2 w (by rw [pq k (kne k hk)] at ww; exact ww)⟩, fun k' hk' => ⟨(this.2 k' (lcs k' hk')).1, fun w ww => (this.2 k' (lcs k' hk')).2 w (by rw [pq k (kne k hk)] at ww; exact ww)⟩⟩
  · obtain ⟨m, a1, a2, a3, a4, a5⟩ := g4 t ht
    exact ⟨m, a1, by rw [zo _ (by omega) (by omega) (by omega)]; exact a2, by rw [q2 _ (by omega)]; exact a3, by rw [q2 _ (by omega), zo _ (by omega) (by omega) (by omega)]; exact a4, a5⟩
  · obtain ⟨tp, a1, a2, a3, a4⟩ := g5
    exact ⟨tp, a1, by rw [q2 _ (by omega)]; exact a2, by rw [zz 5 (by decide)]; exact a3, fun k hk => by rw [zo _ (by omega) (by omega) (by omega), q2 _ (by omega)]; exact a4 k hk⟩
  · rw [q2 _ (by omega), zz 13 (by decide), zz 14 (by decide)]
    exact g6
  · by_cases e : j = i
    · subst e
      right
      refine ⟨z2e, c, n, u, tn, LT, LP, pe, ?_⟩
      refine (hmain.state R2).low (fun k hk => ?_)
      unfold irow
      rw [r1, cpy_in (by omega), show 0 + (1297 * (j + 1) + k - 1297 * (j + 1)) = k by omega]
    · have ro : irow Iz2 z j = irow Iz z j ∨ True := Or.inr trivial
      have rj : ∀ k, k < 1297 → irow Iz2 z j k = irow Iz z j k := fun k hk => by
        unfold irow
        rw [r1, cpy_out (by omega)]
      rcases g7 j hj with ⟨a1, a2⟩ | ⟨a1, ci, n', u', tn', LT', LP', a2, a3⟩
      · exact Or.inl ⟨by rw [z2o j e]; exact a1, by rw [po j e]; exact a2⟩
      · refine Or.inr ⟨by rw [z2o j e]; exact a1, ci, n', u', tn', LT', LP', by rw [po j e]; exact a2, ?_⟩
        exact (cst _ ci _ _ _ _ _ _ (Or.inr ⟨j, hj, a2⟩) a3 (fun q b1 b2 => q2 q (by omega))).low rj
/-- the court is another one -/
def Res1 (T : Nat → Option (Nat × Nat)) (I I2 : Nat → Nat → Int32) (J : Nat → Nat → Int64) (P2 : Nat → Nat → Option Nat) (x nn : Nat) (Iz2 : Nat → Nat → Int32) (Jz : Nat → Nat → Int64) (z N v : Nat) : Prop := ∃ c n u tn LT LP d na, isSR T P2 x ∧ P2 x 3 = some c ∧ InvS T I2 J P2 x nn c Iz2 Jz z (N + 1) n u tn LT LP d na (v + 1) ∧ ∀ q, x + 94 ≤ q → q < x + 224 → ¬ (x + 135 ≤ q ∧ q ≤ x + 156) → I2 q = I q
theorem restore_call (hsr : isSR T P x) (hc3 : P x 3 = some c) (h : InvS T I J P x nn c Iz Jz z N n u tn LT LP d na v) (w : Int32) : ∃ r I2 P2 Iz2, x_restore I P x w = some (r, I2, P2) ∧ r_restore 2000 Iz z w = some (r, Iz2) ∧ ((I2 = I ∧ P2 = P ∧ KeepZ Iz Iz2 z) ∨ Res1 T I I2 J P2 x nn Iz2 Jz z N v) := by
  have hcx := h.apx.1
  have z1 : uI Iz z 0 0 (z + 1) = Iz (z + 1) := thr_row (by decide)
  have z2 : uI Iz z 0 0 (z + 2) = Iz (z + 2) := thr_row (by decide)
  unfold x_restore r_restore
  try dsimp only
  rcases two_cases w with ⟨hw, ew⟩ | ⟨i, hi, rfl, h1, h2, ew⟩
  · rw [ew, if_pos (show (0 : Int32) = 0 from rfl)]
    by_cases c0 : w < 0
    · rw [if_pos c0]
      exact ⟨_, _, _, _, rfl, rfl, Or.inl ⟨rfl, rfl, KeepZ.thr⟩⟩
    · rw [if_neg c0, if_neg (hw.resolve_left c0)]
      exact ⟨_, _, _, _, rfl, rfl, Or.inl ⟨rfl, rfl, KeepZ.thr⟩⟩
  rw [ew, if_neg (show ¬ (1 : Int32) = 0 by decide), if_neg h1, if_pos h2, chk_nI hi (by decide), chk_nI hi (by decide), nI_cl (show i < 2147483648 by omega), z2]
  obtain ⟨g1, g2, g3, g4, g5, g6, g7, g8, g9, g10⟩ := id h
  rcases g7 i hi with ⟨a1, a2⟩ | ⟨a1, ci, n', u', tn', LT', LP', a2, a3⟩
  · rw [a1, a2, if_pos rfl]
    exact ⟨_, _, _, _, rfl, rfl, Or.inl ⟨rfl, rfl, KeepZ.thr⟩⟩
  rw [a1, a2, if_neg (show ¬ (1 : Int32) = 0 by decide)]
  try dsimp only
  have hn' := a3.2.1.1
  obtain ⟨I6, c1, R6, q6⟩ := a3.2.2.2.2.2.1.copy (a := x + 12) hn' a3.2.1.2.2.2.2 (by omega)
  obtain ⟨Iz1, f1, f2, f3⟩ := rres_go (z := z) (A := Iz (z + 1)) hi 1297 0 2000 (uI Iz z 0 0) (by omega) (by omega) (by rw [z1]; exact cpy_0.symm)
  have f1 : r_restore_32 2000 z (nI i) 2000 0 (uI Iz z 0 0) = _ := f1
  unfold pa_forget
  rw [c1, f1, Option.bind_some, Option.bind_some]
  try dsimp only
  rw [Option.bind_some]
  refine ⟨_, _, _, _, rfl, rfl, Or.inr ?_⟩
  rw [show Int32.toNatClampNeg 65 = 65 from rfl]
  generalize hIz2 : uI Iz1 (z + 1) 65 0 = Iz2
  generalize hI2 : uI (uI I6 (x + 19) 2 0) x 9 (uI I6 (x + 19) 2 0 x 9 + 1) = I2
  generalize hP2 : uP P x 3 (some ci) = P2
  have r1 : Iz2 (z + 1) = upd (cpy (Iz (z + 1)) (Iz (z + 1)) 0 (1297 * (i + 1)) 1297) 65 0 := by rw [← hIz2, uI_s, f2]
  have low : ∀ k, k < 65 ∨ (397 ≤ k ∧ k < 1297) → Iz2 (z + 1) k = irow Iz z i k := fun k hk => by
    rw [r1, pk_un (by omega), cpy_in (by omega)]
    unfold irow
    rw [Nat.sub_zero]
  have high : ∀ k, 1297 ≤ k → Iz2 (z + 1) k = Iz (z + 1) k := fun k hk => by rw [r1, pk_un (by omega), cpy_out (by omega)]
  have zo : ∀ q, q ≠ z → q ≠ z + 1 → Iz2 q = Iz q := fun q a0 a1 => by rw [← hIz2, uI_row _ _ _ _ _ a1, f3 q a1, uI_row _ _ _ _ _ a0]
  have zz : ∀ k, k ≠ 0 → Iz2 z k = Iz z k := fun k hk => by rw [← hIz2, uI_row _ _ _ _ _ (by omega), f3 _ (by omega), uI_k _ _ _ _ _ hk]
  have io : ∀ q, ¬ (x + 12 ≤ q ∧ q ≤ x + 18) → q ≠ x → q ≠ x + 19 → I2 q = I q := fun q b1 b2 b3 => by rw [← hI2, uI_row _ _ _ _ _ b2, uI_row _ _ _ _ _ b3, q6 q (by omega)]
  have i19 : I2 (x + 19) = upd (I (x + 19)) 2 0 := by rw [← hI2, uI_row _ _ _ _ _ (by omega), uI_s, q6 _ (by omega)]
  have ix : ∀ k, k ≠ 9 → I2 x k = I x k := fun k hk => by rw [← hI2, uI_k _ _ _ _ _ hk, uI_row _ _ _ _ _ (by omega), q6 _ (by omega)]
  have ix9 : I2 x 9 = nI (v + 1) := by rw [← hI2, uI_e, uI_row _ _ _ _ _ (by omega), q6 _ (by omega), g8, nI_1]
  have pe : P2 x 3 = some ci := by rw [← hP2]; exact uP_here
  have pq : ∀ q, q ≠ x → P2 q = P q := fun q hq => by rw [← hP2, uP_n _ _ _ hq]
  have hPY : PY x T P P2 := by rw [← hP2]; exact PY.crt
  have hsr2 : isSR T P2 x := hsr.py TX.rf hPY
  have lcs : ∀ k, Lc P2 x ci k → Lc P x c k := fun k hk => by
    rcases hk with hk | ⟨j, hj, hk⟩
    · exact Or.inr ⟨i, hi, by rw [hk]; exact a2⟩
    · rw [pq _ (by omega)] at hk
      exact Or.inr ⟨j, hj, hk⟩
  have kne : ∀ k, Lc P x c k → k ≠ x := fun k hk => by have := (g1 k hk).1.1; omega
  have ct : ∀ k, Lc P x c k → isCt T P k → isCt T P2 k := fun k hk hc => isCt.py hc hsr TX.rf hPY (fun w hw => by
      rw [pq k (kne k hk)] at hw
      exact (hc.2.1 w hw).py hsr TX.rf hPY) (fun w hw => by
      rw [pq k (kne k hk)] at hw
      exact (hc.2.2 w hw).py hsr TX.rf hPY)
  have cst : ∀ (a b k : Nat) (A : Row) (n' u' tn' : Nat) (LT' LP' : Row → Int32), Lc P x c k → Cst T I P a k A n' u' tn' LT' LP' N → RS I2 b n' A true → Cst T I2 P2 b k A n' u' tn' LT' LP' (N + 1) := fun a b k A n' u' tn' LT' LP' hk hC hs => by
    have hkx := (g1 k hk).1
    have hk1 := hkx.1
    obtain ⟨h1, h2, h3, h4, h5, h6, h7, h8⟩ := hC
    refine ⟨ct k hk h1, h2, h3, h4, ?_, hs, h7, h8.row h2.1 (by omega) (fun _ _ _ => rfl)⟩
    refine (h5.same (fun q a b => io q (by omega) (by omega) (by omega)) (fun w hw => ?_)).px (by rw [pq k (kne k hk)]) (by rw [pq k (kne k hk)])
    have := hkx.2.2 w hw
    exact io _ (by omega) (by omega) (by omega)
  have hLi : Lc P x c ci := Or.inr ⟨i, hi, a2⟩
  obtain ⟨p1, p2, p3, p4, p5, p6⟩ := g3
  refine ⟨ci, n', u', tn', LT', LP', 0, na, hsr2, pe, ⟨fun k hk => ?_, ?_, ?_, fun t ht => ?_, ?_, ?_, fun j hj => ?_, ix9, by omega, by omega⟩, fun q b1 b2 b3 => io q (by omega) (by omega) (by omega)⟩
  · have hk := lcs k hk
    have := g1 k hk
    refine ⟨⟨this.1.1, this.1.2.1, fun w ww => this.1.2.2 w (by rw [pq k (kne k hk)] at ww; exact ww)⟩, fun k' hk' => ⟨(this.2 k' (lcs k' hk')).1, fun w ww => (this.2 k' (lcs k' hk')).2 w (by rw [pq k (kne k hk)] at ww; exact ww)⟩⟩
  · refine (cst _ (x + 12) ci _ _ _ _ _ _ hLi a3 ?_).low2 low
    exact R6.same (fun q b1 b2 => by rw [← hI2, uI_row _ _ _ _ _ (by omega), uI_row _ _ _ _ _ (by omega)])
  · refine ⟨by omega, p2, by rw [r1, pk_us]; rfl, by rw [i19, pk_un (by decide)]; exact p4, by rw [i19, pk_us]; rfl, fun j hj => absurd hj (by omega)⟩
  · obtain ⟨m, b1, b2, b3, b4, b5⟩ := g4 t ht
    exact ⟨m, b1, by rw [zo _ (by omega) (by omega)]; exact b2, by rw [io _ (by omega) (by omega) (by omega)]; exact b3, by rw [io _ (by omega) (by omega) (by omega), zo _ (by omega) (by omega)]; exact b4, b5⟩
  · obtain ⟨tp, b1, b2, b3, b4⟩ := g5
    exact ⟨tp, b1, by rw [ix 1 (by decide)]; exact b2, by rw [zz 5 (by decide)]; exact b3, fun k hk => by rw [zo _ (by omega) (by omega), io _ (by omega) (by omega) (by omega)]; exact b4 k hk⟩
  · rw [io _ (by omega) (by omega) (by omega), zz 13 (by decide), zz 14 (by decide)]
    exact g6
  · have rj : irow Iz2 z j = irow Iz z j := by
      funext k
      unfold irow
      rw [high _ (by omega)]
    unfold ImgR
    rw [rj, zo (z + 2) (by omega) (by omega), pq (x + 92) (by omega)]
    rcases g7 j hj with b1 | ⟨b1, cj, nj, uj, tj, LTj, LPj, b2, b3⟩
    · exact Or.inl b1
    · exact Or.inr ⟨b1, cj, nj, uj, tj, LTj, LPj, b2, cst _ _ cj _ _ _ _ _ _ (Or.inr ⟨j, hj, b2⟩) b3 (b3.2.2.2.2.2.1.same (fun q a b => io q (by omega) (by omega) (by omega)))⟩
end
