/-! class and reference, side by side, between two calls -/
def Lc (P : Nat → Nat → Option Nat) (x c k : Nat) : Prop := k = c ∨ ∃ i, i < 2 ∧ P (x + 92) i = some k
def Cok (P : Nat → Nat → Option Nat) (x nn c : Nat) : Prop := (c = x + 4 ∨ x + 224 ≤ c) ∧ c + 8 ≤ nn ∧ ∀ w, P c 8 = some w ∨ P c 9 = some w → x + 224 ≤ w ∧ w + 2 ≤ nn
def Far (P : Nat → Nat → Option Nat) (c c' : Nat) : Prop := (c = c' ∨ c + 8 ≤ c' ∨ c' + 8 ≤ c) ∧ ∀ w, P c 8 = some w ∨ P c 9 = some w → w + 2 ≤ c' ∨ c' + 8 ≤ w
def Live (P : Nat → Nat → Option Nat) (x nn c : Nat) : Prop := ∀ k, Lc P x c k → Cok P x nn k ∧ ∀ k', Lc P x c k' → Far P k k'
/-- when one sat down, and what it has been pained, are bounded by what has happened -/
def Pb (A : Row) (e p : Nat) : Prop := ∃ s, s ≤ e ∧ A (53 + p) = nI s ∧ -(99 * (e : Int)) ≤ (A (47 + p)).toInt ∧ (A (47 + p)).toInt ≤ 99 * (e : Int)
theorem Pb.row {A A' : Row} {e p : Nat} (h : Pb A e p) (h1 : A' (53 + p) = A (53 + p)) (h2 : A' (47 + p) = A (47 + p)) : Pb A' e p := by
  obtain ⟨s, a1, a2, a3, a4⟩ := h
  exact ⟨s, a1, h1.trans a2, by rw [h2]; exact a3, by rw [h2]; exact a4⟩
def Ev (A : Row) (n N : Nat) : Prop := ∃ e, e ≤ 50 * N ∧ A 34 = nI e ∧ ∀ p, p < n → Pb A e p
/-- a State at a, of a Court at c, and the row -/
def Cst (T : Nat → Option (Nat × Nat)) (I : Nat → Nat → Int32) (P : Nat → Nat → Option Nat) (a c : Nat) (A : Row) (n u tn : Nat) (LT LP : Row → Int32) (N : Nat) : Prop := isCt T P c ∧ Wf A n u ∧ RT A LT ∧ RP A LP ∧ CC T I P c A LT LP ∧ RS I a n A true ∧ (A 2 = nI tn ∧ tn ≤ 4) ∧ Ev A n N
def prow (A : Row) (j : Nat) : Row := cpy A A 32 (66 + 33 * j) 33
def PastR (I : Nat → Nat → Int32) (x : Nat) (A : Row) (n N d na : Nat) : Prop := d ≤ 10 ∧ na < 10 ∧ A 65 = nI d ∧ I (x + 19) 1 = nI na ∧ I (x + 19) 2 = nI d ∧ ∀ j, j < d → ∃ uj, Wf (prow A j) n uj ∧ RS I (x + (21 + 7 * ((na + 10 - d + j) % 10))) n (prow A j) true ∧ Ev (prow A j) n N
def TrayR (I : Nat → Nat → Int32) (J : Nat → Nat → Int64) (x : Nat) (Iz : Nat → Nat → Int32) (Jz : Nat → Nat → Int64) (z : Nat) : Prop := ∀ t, t < 4 → ∃ m, m ≤ 40 ∧ Iz (z + 19) t = nI m ∧ I (x + (135 + 2 * t)) 1 = nI m ∧ I (x + (135 + 2 * t)) 2 = Iz (z + 18) t ∧ ∀ i, i < m → J (x + (135 + 2 * t) + 1) i = Jz (z + 20) (40 * t + i)
def TapeR (I : Nat → Nat → Int32) (x : Nat) (Iz : Nat → Nat → Int32) (z : Nat) : Prop := ∃ tp, tp ≤ 900 ∧ I x 1 = nI tp ∧ Iz z 5 = nI tp ∧ ∀ k, k < tp → ∃ b, b < 256 ∧ Iz (z + 3) k = nI b ∧ I (x + 1) k = (Int32.toInt8 (nI b)).toInt32
def irow (Iz : Nat → Nat → Int32) (z i : Nat) : Row := fun k => Iz (z + 1) (1297 * (i + 1) + k)
def ImgR (T : Nat → Option (Nat × Nat)) (I : Nat → Nat → Int32) (P : Nat → Nat → Option Nat) (x : Nat) (Iz : Nat → Nat → Int32) (z N i : Nat) : Prop := (Iz (z + 2) i = 0 ∧ P (x + 92) i = none) ∨ (Iz (z + 2) i = 1 ∧ ∃ ci n u tn LT LP, P (x + 92) i = some ci ∧ Cst T I P (x + (143 + 7 * i)) ci (irow Iz z i) n u tn LT LP N)
def InvS (T : Nat → Option (Nat × Nat)) (I : Nat → Nat → Int32) (J : Nat → Nat → Int64) (P : Nat → Nat → Option Nat) (x nn c : Nat) (Iz : Nat → Nat → Int32) (Jz : Nat → Nat → Int64) (z N n u tn : Nat) (LT LP : Row → Int32) (d na v : Nat) : Prop :=
  Live P x nn c ∧ Cst T I P (x + 12) c (Iz (z + 1)) n u tn LT LP N ∧ PastR I x (Iz (z + 1)) n N d na ∧ TrayR I J x Iz Jz z ∧ TapeR I x Iz z ∧ (I (x + 2) 0 = Iz z 13 ∧ I (x + 2) 1 = Iz z 14) ∧ (∀ i, i < 2 → ImgR T I P x Iz z N i) ∧ I x 9 = nI v ∧ 1 ≤ v ∧ v ≤ N + 1
/-- places that queries may write -/
def Scr (x c q : Nat) : Prop := q = x ∨ q = x + 2 ∨ q = x + 3 ∨ (x + 94 ≤ q ∧ q ≤ x + 134) ∨ (x + 157 ≤ q ∧ q < x + 224) ∨ q = c + 5 ∨ q = c + 6 ∨ q = c + 7
def KeepX (I I' : Nat → Nat → Int32) (x c : Nat) : Prop := (∀ q, ¬ Scr x c q → I' q = I q) ∧ I' x 1 = I x 1 ∧ I' x 9 = I x 9 ∧ I' (x + 2) 0 = I (x + 2) 0 ∧ I' (x + 2) 1 = I (x + 2) 1
def KeepJ (J J' : Nat → Nat → Int64) (x : Nat) : Prop := ∀ t, t < 4 → J' (x + (135 + 2 * t) + 1) = J (x + (135 + 2 * t) + 1)
def KeepZ (Iz Iz' : Nat → Nat → Int32) (z : Nat) : Prop := Iz' (z + 1) = Iz (z + 1) ∧ Iz' (z + 2) = Iz (z + 2) ∧ Iz' (z + 3) = Iz (z + 3) ∧ Iz' (z + 18) = Iz (z + 18) ∧ Iz' (z + 19) = Iz (z + 19) ∧ Iz' z 5 = Iz z 5 ∧ Iz' z 13 = Iz z 13 ∧ Iz' z 14 = Iz z 14
theorem KeepX.rf {I : Nat → Nat → Int32} {x c : Nat} : KeepX I I x c := ⟨fun _ _ => rfl, rfl, rfl, rfl, rfl⟩
theorem KeepX.tr {I I1 I2 : Nat → Nat → Int32} {x c : Nat} (h : KeepX I I1 x c) (h2 : KeepX I1 I2 x c) : KeepX I I2 x c := ⟨fun q hq => (h2.1 q hq).trans (h.1 q hq), h2.2.1.trans h.2.1, h2.2.2.1.trans h.2.2.1, h2.2.2.2.1.trans h.2.2.2.1, h2.2.2.2.2.trans h.2.2.2.2⟩
theorem KeepZ.rf {Iz : Nat → Nat → Int32} {z : Nat} : KeepZ Iz Iz z := ⟨rfl, rfl, rfl, rfl, rfl, rfl, rfl, rfl⟩
theorem KeepZ.tr {I I1 I2 : Nat → Nat → Int32} {z : Nat} (h : KeepZ I I1 z) (h2 : KeepZ I1 I2 z) : KeepZ I I2 z := by
  obtain ⟨a1, a2, a3, a4, a5, a6, a7, a8⟩ := h
  obtain ⟨b1, b2, b3, b4, b5, b6, b7, b8⟩ := h2
  exact ⟨b1.trans a1, b2.trans a2, b3.trans a3, b4.trans a4, b5.trans a5, b6.trans a6, b7.trans a7, b8.trans a8⟩
theorem KeepX.of {I I' : Nat → Nat → Int32} {x c : Nat} (h : ∀ q, ¬ Scr x c q → I' q = I q) (h0 : I' x = I x) (h2 : I' (x + 2) = I (x + 2)) : KeepX I I' x c := ⟨h, by rw [h0], by rw [h0], by rw [h2], by rw [h2]⟩
theorem px_at {P P' : Nat → Nat → Option Nat} {x q i : Nat} (h : PX x P P') (hq : q ≠ x + 214) (hq2 : q ≠ x + 219) : P' q i = P q i := h q i (fun c => hq c.1) (fun c => hq2 c.1)
theorem CLw.T {T : Nat → Option (Nat × Nat)} {I : Nat → Nat → Int32} {w : Nat} {φ : Row → Int32} (h : CLw T I w φ) : CLw T I w φ := h
theorem CC.px {T : Nat → Option (Nat × Nat)} {I : Nat → Nat → Int32} {P P' : Nat → Nat → Option Nat} {c : Nat} {A : Row} {LT LP : Row → Int32} (h : CC T I P c A LT LP) (h8 : P' c 8 = P c 8) (h9 : P' c 9 = P c 9) : CC T I P' c A LT LP := by
  obtain ⟨g1, g2, g3, g4⟩ := h
  unfold CT at g2
  unfold CP at g3
  rw [← h8] at g2
  rw [← h9] at g3
  exact ⟨g1, g2, g3, g4⟩
theorem RCt.row {I : Nat → Nat → Int32} {c : Nat} {A A' : Row} (h : RCt I c A) (e : ∀ k, k < 32 → A' k = A k) : RCt I c A' := by
  obtain ⟨g0, g1, g2, g3, g4, g5, g6⟩ := h
  refine ⟨by rw [e _ (by omega)]; exact g0, by rw [e _ (by omega)]; exact g1, by rw [e _ (by omega)]; exact g2, by rw [e _ (by omega)]; exact g3, fun p hp => ?_, fun t ht => ?_, fun k hk => ?_⟩
  · rw [e _ (by omega), e _ (by omega)]; exact g4 p hp
  · rw [e _ (by omega)]; exact g5 t ht
  · rw [e _ (by omega)]; exact g6 k hk
theorem CC.row {T : Nat → Option (Nat × Nat)} {I : Nat → Nat → Int32} {P : Nat → Nat → Option Nat} {c : Nat} {A A' : Row} {LT LP : Row → Int32} (h : CC T I P c A LT LP) (e : ∀ k, k < 32 → A' k = A k) : CC T I P c A' LT LP := ⟨h.1.row e, h.2⟩
/-- what a court's cells are kept by -/
theorem Cst.keep {T : Nat → Option (Nat × Nat)} {I I' : Nat → Nat → Int32} {P P' : Nat → Nat → Option Nat} {x nn a c k : Nat} {A : Row} {n u tn : Nat} {LT LP : Row → Int32} {N : Nat} (hk : Cst T I P a k A n u tn LT LP N) (hC : Cok P x nn k) (hF : Far P k c) (hI : ∀ q, ¬ Scr x c q → I' q = I q) (hP : PX x P P') (hx : isSR T P x) (ha : x ≤ a ∧ a + 7 ≤ x + 224) (hs : ∀ q, a ≤ q → q ≤ a + 6 → ¬ Scr x c q) : Cst T I' P' a k A n u tn LT LP N := by
  obtain ⟨h1, h2, h3, h4, h5, h6, h7, h8⟩ := hk
  have hkx : k ≠ x + 214 ∧ k ≠ x + 219 := by have := hC.1; omega
  have p8 : P' k 8 = P k 8 := px_at hP hkx.1 hkx.2
  have p9 : P' k 9 = P k 9 := px_at hP hkx.1 hkx.2
  have nb : ∀ q, k ≤ q → q ≤ k + 4 → ¬ Scr x c q := fun q a1 a2 a3 => by
    have := hC.1
    have := hF.1
    unfold Scr at a3
    omega
  have nw : ∀ w, P k 8 = some w ∨ P k 9 = some w → ¬ Scr x c (w + 1) := fun w hw a3 => by
    have := hC.2.2 w hw
    have := hF.2 w hw
    unfold Scr at a3
    omega
  exact ⟨isCt.px h1 hx hP, h2, h3, h4, (h5.same (fun q a1 a2 => hI q (nb q a1 a2)) (fun w hw => hI _ (nw w hw))).px p8 p9, h6.same (fun q a1 a2 => hI q (hs q a1 a2)), h7, h8⟩
theorem InvS.keep {T : Nat → Option (Nat × Nat)} {I I' : Nat → Nat → Int32} {J J' : Nat → Nat → Int64} {P P' : Nat → Nat → Option Nat} {x nn c : Nat} {Iz Iz' : Nat → Nat → Int32} {Jz : Nat → Nat → Int64} {z N n u tn : Nat} {LT LP : Row → Int32} {d na v : Nat} (h : InvS T I J P x nn c Iz Jz z N n u tn LT LP d na v) (hx : isSR T P x) (hI : KeepX I I' x c) (hJ : KeepJ J J' x) (hP : PX x P P') (hZ : KeepZ Iz Iz' z) : InvS T I' J' P' x nn c Iz' Jz z N n u tn LT LP d na v := by
  obtain ⟨g1, g2, g3, g4, g5, g6, g7, g8, g9, g10⟩ := h
  obtain ⟨i1, i2, i3, i4, i5⟩ := hI
  obtain ⟨z1, z2, z3, z4, z5, z6, z7, z8⟩ := hZ
  have hc := g1 c (Or.inl rfl)
  have hcx := hc.1.1
  have hlc : ∀ k, Lc P' x c k → Lc P x c k := fun k hk => by
    rcases hk with hk | ⟨i, hi, hk⟩
    · exact Or.inl hk
    · exact Or.inr ⟨i, hi, by rw [← px_at hP (by omega) (by omega)]; exact hk⟩
  have hw : ∀ k, Lc P x c k → ∀ w, P' k 8 = some w ∨ P' k 9 = some w → P k 8 = some w ∨ P k 9 = some w := fun k hk w hw => by
    have := (g1 k hk).1.1
    rw [px_at hP (by omega) (by omega), px_at hP (by omega) (by omega)] at hw
    exact hw
  refine ⟨fun k hk => ?_, ?_, ?_, ?_, ?_, ?_, fun i hi => ?_, by rw [i3]; exact g8, g9, g10⟩
  · have hk := hlc k hk
    have := g1 k hk
    exact ⟨⟨this.1.1, this.1.2.1, fun w ww => this.1.2.2 w (hw k hk w ww)⟩, fun k' hk' => ⟨(this.2 k' (hlc k' hk')).1, fun w ww => (this.2 k' (hlc k' hk')).2 w (hw k hk w ww)⟩⟩
  · rw [z1]
    exact g2.keep hc.1 (hc.2 c (Or.inl rfl)) i1 hP hx (by omega) (fun q a1 a2 a3 => by unfold Scr at a3; omega)
  · obtain ⟨p1, p2, p3, p4, p5, p6⟩ := g3
    have e19 : I' (x + 19) = I (x + 19) := i1 _ (by unfold Scr; omega)
    refine ⟨p1, p2, by rw [z1]; exact p3, by rw [e19]; exact p4, by rw [e19]; exact p5, fun j hj => ?_⟩
    obtain ⟨uj, a1, a2, a3⟩ := p6 j hj
    rw [z1]
    have hm := Nat.mod_lt (na + 10 - d + j) (show 0 < 10 by decide)
    exact ⟨uj, a1, a2.same (fun q b1 b2 => i1 q (by unfold Scr; omega)), a3⟩
  · intro t ht
    obtain ⟨m, a1, a2, a3, a4, a5⟩ := g4 t ht
    have e1 : I' (x + (135 + 2 * t)) = I (x + (135 + 2 * t)) := i1 _ (by unfold Scr; omega)
    exact ⟨m, a1, by rw [z5]; exact a2, by rw [e1]; exact a3, by rw [e1, z4]; exact a4, fun i hi => by rw [hJ t ht]; exact a5 i hi⟩
  · obtain ⟨tp, a1, a2, a3, a4⟩ := g5
    have e1 : I' (x + 1) = I (x + 1) := i1 _ (by unfold Scr; omega)
    exact ⟨tp, a1, by rw [i2]; exact a2, by rw [z6]; exact a3, fun k hk => by rw [z3, e1]; exact a4 k hk⟩
  · rw [i4, i5, z7, z8]
    exact g6
  · have hp : P' (x + 92) i = P (x + 92) i := px_at hP (by omega) (by omega)
    rcases g7 i hi with ⟨a1, a2⟩ | ⟨a1, ci, n1, u1, tn1, LT1, LP1, a2, a3⟩
    · exact Or.inl ⟨by rw [z2]; exact a1, by rw [hp]; exact a2⟩
    · have hL : Lc P x c ci := Or.inr ⟨i, hi, a2⟩
      have := g1 ci hL
      have er : irow Iz' z i = irow Iz z i := by unfold irow; rw [z1]
      refine Or.inr ⟨by rw [z2]; exact a1, ci, n1, u1, tn1, LT1, LP1, by rw [hp]; exact a2, ?_⟩
      rw [er]
      exact a3.keep this.1 (this.2 c (Or.inl rfl)) i1 hP hx (by omega) (fun q b1 b2 b3 => by unfold Scr at b3; omega)
