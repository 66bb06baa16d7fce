/-! what searches need of class and reference: the court, its state, the trays; the version -/
def KeepY (Iz Iz' : Nat → Nat → Int32) (z : Nat) : Prop := (∀ k, k < 1297 → Iz' (z + 1) k = Iz (z + 1) k) ∧ Iz' (z + 18) = Iz (z + 18) ∧ Iz' (z + 19) = Iz (z + 19)
theorem KeepY.rf {Iz : Nat → Nat → Int32} {z : Nat} : KeepY Iz Iz z := ⟨fun _ _ => rfl, rfl, rfl⟩
theorem KeepY.tr {I I1 I2 : Nat → Nat → Int32} {z : Nat} (h : KeepY I I1 z) (h2 : KeepY I1 I2 z) : KeepY I I2 z := ⟨fun k hk => (h2.1 k hk).trans (h.1 k hk), h2.2.1.trans h.2.1, h2.2.2.trans h.2.2⟩
theorem KeepZ.y {Iz Iz' : Nat → Nat → Int32} {z : Nat} (h : KeepZ Iz Iz' z) : KeepY Iz Iz' z := ⟨fun k _ => by rw [h.1], h.2.2.2.1, h.2.2.2.2.1⟩
theorem Cst.low {T : Nat → Option (Nat × Nat)} {I : Nat → Nat → Int32} {P : Nat → Nat → Option Nat} {a c : Nat} {A A' : Row} {n u tn : Nat} {LT LP : Row → Int32} {N : Nat} (h : Cst T I P a c A n u tn LT LP N) (e : ∀ k, k < 1297 → A' k = A k) : Cst T I P a c A' n u tn LT LP N := by
  obtain ⟨h1, h2, h3, h4, h5, h6, h7, h8⟩ := h
  exact ⟨h1, h2.row (e _ (by omega)) (fun k a b => e k (by omega)), h3.same (fun k hk => e k (by omega)), h4.same (fun k hk => e k (by omega)), h5.row (fun k hk => e k (by omega)), h6.row h2.1 (fun k a b => e k (by omega)), ⟨by rw [e _ (by omega)]; exact h7.1, h7.2⟩, h8.row h2.1 (Nat.le_refl _) (fun k a b => e k (by omega))⟩
def InvK (T : Nat → Option (Nat × Nat)) (I : Nat → Nat → Int32) (J : Nat → Nat → Int64) (P : Nat → Nat → Option Nat) (x nn c : Nat) (Iz : Nat → Nat → Int32) (Jz : Nat → Nat → Int64) (z N n u tn : Nat) (LT LP : Row → Int32) (v : Nat) : Prop :=
  Live P x nn c ∧ Cst T I P (x + 12) c (Iz (z + 1)) n u tn LT LP N ∧ TrayR I J x Iz Jz z ∧ I x 9 = nI v ∧ 1 ≤ v ∧ v ≤ N + 1
section
variable {T : Nat → Option (Nat × Nat)} {I : Nat → Nat → Int32} {J : Nat → Nat → Int64} {P : Nat → Nat → Option Nat} {x nn c : Nat} {Iz : Nat → Nat → Int32} {Jz : Nat → Nat → Int64} {z N n u tn : Nat} {LT LP : Row → Int32} {d na v : Nat}
theorem InvS.k (h : InvS T I J P x nn c Iz Jz z N n u tn LT LP d na v) : InvK T I J P x nn c Iz Jz z N n u tn LT LP v := ⟨h.1, h.2.1, h.2.2.2.1, h.2.2.2.2.2.2.2⟩
theorem InvK.keep {I' : Nat → Nat → Int32} {J' : Nat → Nat → Int64} {P' : Nat → Nat → Option Nat} {Iz' : Nat → Nat → Int32} {Jz' : Nat → Nat → Int64} (h : InvK T I J P x nn c Iz Jz z N n u tn LT LP v) (hx : isSR T P x) (hI : KeepX I I' x c) (hJ : KeepJ J J' x) (hP : PX x P P') (hZ : KeepY Iz Iz' z) (hj : Jz' (z + 20) = Jz (z + 20)) : InvK T I' J' P' x nn c Iz' Jz' z N n u tn LT LP v := by
  obtain ⟨g1, g2, g4, g8, g9, g10⟩ := h
  obtain ⟨i1, i2, i3, i4, i5⟩ := hI
  obtain ⟨z1, z4, z5⟩ := hZ
  have hc := g1 c (Or.inl rfl)
  have hcx := hc.1.1
  have hlc : ∀ k, Lc P' x c k → Lc P x c k := fun k hk => by
    rcases hk with hk | ⟨i, hi, hk⟩
    · exact Or.inl hk
    · exact Or.inr ⟨i, hi, by rw [← px_at hP (by omega) (by omega)]; exact hk⟩
  have hw : ∀ k, Lc P x c k → ∀ w, P' k 8 = some w ∨ P' k 9 = some w → P k 8 = some w ∨ P k 9 = some w := fun k hk w hw => by
    have := (g1 k hk).1.1
    rw [px_at hP (by omega) (by omega), px_at hP (by omega) (by omega)] at hw
    exact hw
  refine ⟨fun k hk => ?_, ?_, ?_, by rw [i3]; exact g8, g9, g10⟩
  · have hk := hlc k hk
    have := g1 k hk
    exact ⟨⟨this.1.1, this.1.2.1, fun w ww => this.1.2.2 w (hw k hk w ww)⟩, fun k' hk' => ⟨(this.2 k' (hlc k' hk')).1, fun w ww => (this.2 k' (hlc k' hk')).2 w (hw k hk w ww)⟩⟩
  · exact (g2.keep hc.1 (hc.2 c (Or.inl rfl)) i1 hP hx (by omega) (fun q a1 a2 a3 => by unfold Scr at a3; omega)).low z1
  · intro t ht
    obtain ⟨m, a1, a2, a3, a4, a5⟩ := g4 t ht
    have e1 : I' (x + (135 + 2 * t)) = I (x + (135 + 2 * t)) := i1 _ (by unfold Scr; omega)
    exact ⟨m, a1, by rw [z5]; exact a2, by rw [e1]; exact a3, by rw [e1, z4]; exact a4, fun i hi => by rw [hJ t ht, hj]; exact a5 i hi⟩
theorem InvK.n6 (h : InvK T I J P x nn c Iz Jz z N n u tn LT LP v) : n ≤ 6 := h.2.1.2.1.1
theorem InvK.c0 (h : InvK T I J P x nn c Iz Jz z N n u tn LT LP v) : I c 0 = nI n := h.2.1.2.2.2.2.1.1.1.trans h.2.1.2.1.2.1
theorem InvK.c1 (h : InvK T I J P x nn c Iz Jz z N n u tn LT LP v) : I c 1 = nI tn := h.2.1.2.2.2.2.1.1.2.1.trans h.2.1.2.2.2.2.2.2.1.1
theorem InvK.t4 (h : InvK T I J P x nn c Iz Jz z N n u tn LT LP v) : tn ≤ 4 := h.2.1.2.2.2.2.2.2.1.2
theorem InvK.z1 (h : InvK T I J P x nn c Iz Jz z N n u tn LT LP v) : Iz (z + 1) 1 = nI n := h.2.1.2.1.2.1
theorem InvK.z2 (h : InvK T I J P x nn c Iz Jz z N n u tn LT LP v) : Iz (z + 1) 2 = nI tn := h.2.1.2.2.2.2.2.2.1.1
theorem InvK.wf (h : InvK T I J P x nn c Iz Jz z N n u tn LT LP v) : Wf (Iz (z + 1)) n u := h.2.1.2.1
theorem InvK.cc (h : InvK T I J P x nn c Iz Jz z N n u tn LT LP v) : CC T I P c (Iz (z + 1)) LT LP := h.2.1.2.2.2.2.1
theorem InvK.rs (h : InvK T I J P x nn c Iz Jz z N n u tn LT LP v) : RS I (x + 12) n (Iz (z + 1)) true := h.2.1.2.2.2.2.2.1
theorem InvK.v9 (h : InvK T I J P x nn c Iz Jz z N n u tn LT LP v) : I x 9 = nI v ∧ v ≤ N + 1 := ⟨h.2.2.2.1, h.2.2.2.2.2⟩
theorem InvK.apt (h : InvK T I J P x nn c Iz Jz z N n u tn LT LP v) {a : Nat} (h1 : x + 12 ≤ a) (h2 : a + 7 ≤ x + 224) : Apt P c a := by
  have hc := h.1 c (Or.inl rfl)
  have h0 := hc.1.1
  refine ⟨by omega, fun w hw => ?_⟩
  have := hc.1.2.2 w hw
  have := (hc.2 c (Or.inl rfl)).2 w hw
  omega
end
/-! waiting: the tables of what two win -/
def mpair (A : Row) (p q : Nat) : Row := upd (upd (upd A 32 (nI (2 ^ p ||| 2 ^ q))) (47 + p) 0) (47 + q) 0
theorem mpair_o {A : Row} {p q k : Nat} (h : k ≠ 32) (h1 : k ≠ 47 + p) (h2 : k ≠ 47 + q) : mpair A p q k = A k := by
  unfold mpair
  rw [pk_un h2, pk_un h1, pk_un h]
theorem mpair_32 {A : Row} {p q : Nat} : mpair A p q 32 = nI (2 ^ p ||| 2 ^ q) := by
  unfold mpair
  rw [pk_un (by omega), pk_un (by omega), pk_us]
theorem mpair_p {A : Row} {p q : Nat} : mpair A p q (47 + p) = 0 := by
  unfold mpair
  by_cases e : p = q
  · subst e; rw [pk_us]
  · rw [pk_un (by omega), pk_us]
theorem mpair_q {A : Row} {p q : Nat} : mpair A p q (47 + q) = 0 := by
  unfold mpair
  rw [pk_us]
theorem pair_tab : ∀ p, p < 6 → ∀ q, q < 6 → ((1 : Int32) <<< (nI p &&& 31)) ||| ((1 : Int32) <<< (nI q &&& 31)) = nI (2 ^ p ||| 2 ^ q) := by decide +kernel
theorem pair_ub : ∀ p, p < 6 → ∀ q, q < 6 → ∀ r, r < 6 → ub (2 ^ p ||| 2 ^ q) r = (r == p || r == q) := by decide +kernel
theorem pair_lt : ∀ n, n < 7 → ∀ p, p < n → ∀ q, q < n → 2 ^ p ||| 2 ^ q < 2 ^ n := by decide +kernel
theorem Wf.pair {A : Row} {n u p q : Nat} (h : Wf A n u) (hp : p < n) (hq : q < n) : Wf (mpair A p q) n (2 ^ p ||| 2 ^ q) :=
  ⟨h.1, by rw [mpair_o (by omega) (by omega) (by omega)]; exact h.2.1, mpair_32, pair_lt n (by have := h.1; omega) p hp q hq, h.2.2.2.2.same h.1 (fun k a b => mpair_o (by omega) (by omega) (by omega))⟩
/-- what waiting writes in the class -/
def Wx (I I1 : Nat → Nat → Int32) (x c : Nat) : Prop := ∀ q, ¬ (x + 117 ≤ q ∧ q ≤ x + 133) → q ≠ x + 114 → q ≠ c + 5 → q ≠ c + 6 → q ≠ c + 7 → I1 q = I q
/-- the reference's state is again as it was; its tables of waiting may be others -/
def Kw (Iz Iz1 : Nat → Nat → Int32) (z : Nat) : Prop := (∀ k, k < 33 → Iz1 (z + 7) k = Iz (z + 1) (32 + k)) ∧ Iz1 (z + 1) = Iz (z + 1) ∧ (∀ q, q ≠ z → q ≠ z + 5 → q ≠ z + 6 → q ≠ z + 7 → q ≠ z + 8 → q ≠ z + 9 → q ≠ z + 15 → q ≠ z + 16 → Iz1 q = Iz q) ∧ ∀ k, k ≠ 0 → Iz1 z k = Iz z k
section
variable {T : Nat → Option (Nat × Nat)} {I : Nat → Nat → Int32} {J : Nat → Nat → Int64} {P : Nat → Nat → Option Nat} {x nn c : Nat} {Iz : Nat → Nat → Int32} {Jz : Nat → Nat → Int64} {z N n u tn : Nat} {LT LP : Row → Int32} {d na v e : Nat}
theorem Kz.kw {Iz1 : Nat → Nat → Int32} (h : Kz Iz Iz1 z) : Kw Iz Iz1 z := ⟨h.1, h.2.1, fun q a0 a5 a6 a7 a8 a9 _ _ => h.2.2.1 q a0 a5 a6 a7 a8 a9, h.2.2.2⟩
theorem Kw.keep {Iz1 : Nat → Nat → Int32} (h : Kw Iz Iz1 z) : KeepZ Iz Iz1 z := by
  obtain ⟨h1, h2, h3, h4⟩ := h
  exact ⟨h2, h3 _ (by omega) (by omega) (by omega) (by omega) (by omega) (by omega) (by omega) (by omega), h3 _ (by omega) (by omega) (by omega) (by omega) (by omega) (by omega) (by omega) (by omega), h3 _ (by omega) (by omega) (by omega) (by omega) (by omega) (by omega) (by omega) (by omega), h3 _ (by omega) (by omega) (by omega) (by omega) (by omega) (by omega) (by omega) (by omega), h4 5 (by decide), h4 13 (by decide), h4 14 (by decide)⟩
theorem Wx.scr {I1 : Nat → Nat → Int32} (h : Wx I I1 x c) : ∀ q, ¬ Scr x c q → I1 q = I q := fun q hq => by
  unfold Scr at hq
  exact h q (by omega) (by omega) (by omega) (by omega) (by omega)
theorem sm_pair (h : InvK T I J P x nn c Iz Jz z N n u tn LT LP v) {I1 Iz1 : Nat → Nat → Int32} {p q : Nat} (hp : p < n) (hq : q < n) (hI : ∀ q, ¬ Scr x c q → I1 q = I q) (hR : RS I1 (x + 127) n (mpair (Iz (z + 1)) p q) true) (hz : Iz1 (z + 1) = mpair (Iz (z + 1)) p q) : ∃ e, e ≤ 50 * N ∧ Sm T I1 P (x + 127) c Iz1 z n (2 ^ p ||| 2 ^ q) tn LT LP e true := by
  obtain ⟨g1, ⟨k1, k2, k3, k4, k5, k6, k7, e, k8, k9, k10⟩, -⟩ := id h
  have hn := k2.1
  have hc := g1 c (Or.inl rfl)
  refine ⟨e, k8, ?_⟩
  unfold Sm
  rw [hz]
  refine ⟨k2.pair hp hq, k3.same (fun k hk => mpair_o (by omega) (by omega) (by omega)), k4.same (fun k hk => mpair_o (by omega) (by omega) (by omega)), (k5.row (fun k hk => mpair_o (by omega) (by omega) (by omega))).same (fun q a1 a2 => hI q (fun cc => ?_)) (fun w hw => hI _ (fun cc => ?_)), hR, ⟨by rw [mpair_o (by omega) (by omega) (by omega)]; exact k7.1, k7.2⟩, h.apt (by omega) (by omega), ?_, fun r hr => ?_⟩
  · have := hc.1.1
    unfold Scr at cc
    omega
  · have := hc.1.2.2 w hw
    have := (hc.2 c (Or.inl rfl)).2 w hw
    unfold Scr at cc
    omega
  · rw [mpair_o (by omega) (by omega) (by omega)]
    exact k9
  · obtain ⟨s, s1, s2, s3, s4⟩ := k10 r hr
    refine ⟨s, s1, by rw [mpair_o (by omega) (by omega) (by omega)]; exact s2, ?_⟩
    have z0 : (0 : Int32).toInt = 0 := rfl
    by_cases e1 : r = p
    · subst e1
      rw [mpair_p, z0]
      omega
    · by_cases e2 : r = q
      · subst e2
        rw [mpair_q, z0]
        omega
      · rw [mpair_o (by omega) (by omega) (by omega)]
        exact ⟨s3, s4⟩
/-- the entries of the tables that are laid -/
def Lay (I : Nat → Nat → Int32) (x : Nat) (Iz : Nat → Nat → Int32) (z k : Nat) : Prop := I (x + 118) k = Iz (z + 15) k ∧ I (x + 119) k = Iz (z + 16) k
theorem wait_is (h : InvK T I J P x nn c Iz Jz z N n u tn LT LP v) (hN : N < 600) {p q t a b : Nat} (hp : p < n) (hq : q < n) (hpq : p ≠ q) (ha : a ≤ 20) (hb : b ≤ 20) {I1 Iz1 : Nat → Nat → Int32} (hx : Wx I I1 x c) (hR : RS I1 (x + 120) n (mpair (Iz (z + 1)) p q) true) (hK : Kw Iz Iz1 z) :
    ∃ I2 Iz2, wa_standAgainst 2000 T I1 P x c (nI t) (nI p) (nI q) (nI a) (nI b) = some I2 ∧ r_laysWait 2000 Iz1 z (nI p) (nI q) (nI t) (nI a) (nI b) = some Iz2 ∧ Wx I I2 x c ∧ RS I2 (x + 120) n (mpair (Iz (z + 1)) p q) true ∧ Kw Iz Iz2 z ∧ Lay I2 x Iz2 z (21 * a + b) ∧ ∀ k, k ≠ 21 * a + b → Lay I1 x Iz1 z k → Lay I2 x Iz2 z k := by
  have hcx := (h.1 c (Or.inl rfl)).1.1
  have hn := h.n6
  obtain ⟨I2, c1, R2, q2⟩ := hR.copy (a := x + 127) hn (h.wf.pair hp hq).2.2.2.2 (by omega)
  have x2 : Wx I I2 x c := fun q a1 a2 a3 a4 a5 => by rw [q2 q (by omega), hx q a1 a2 a3 a4 a5]
  unfold wa_standAgainst r_laysWait
  rw [c1, Option.bind_some]
  try dsimp only
  rw [show Int32.toNatClampNeg 32 = 32 from rfl, pair_tab p (by omega) q (by omega), show (47 : Int32) + nI p = nI (47 + p) from nI_add 47 p, show (47 : Int32) + nI q = nI (47 + q) from nI_add 47 q, chk_nI (show 47 + p < 3891 by omega) (by decide), chk_nI (show 47 + q < 3891 by omega) (by decide), nI_cl (show 47 + p < 2147483648 by omega), nI_cl (show 47 + q < 2147483648 by omega)]
  generalize hz7 : uI (uI (uI Iz1 (z + 1) 32 (nI (2 ^ p ||| 2 ^ q))) (z + 1) (47 + p) 0) (z + 1) (47 + q) 0 = Iz7
  have r7 : Iz7 (z + 1) = mpair (Iz (z + 1)) p q := by
    rw [← hz7, uI_s, uI_s, uI_s, hK.2.1]
    rfl
  have o7 : ∀ q, q ≠ z + 1 → Iz7 q = Iz1 q := fun r hr => by rw [← hz7, uI_row _ _ _ _ _ hr, uI_row _ _ _ _ _ hr, uI_row _ _ _ _ _ hr]
  obtain ⟨e, he, S⟩ := sm_pair h hp hq x2.scr R2 r7
  have bits := pair_ub p (by omega) q (by omega)
  obtain ⟨I3, Iz3, u3, e3, y1, y2, m1, m2, g1, g2, S3, e3e, fx, fr⟩ := wait_go (t := t) hp hq hpq ha hb 20 0 2000 2000 e _ 0 0 0 0 I2 Iz7 (by omega) (by omega) (by omega) (by omega) S (fun r hr h1 h2 => by rw [bits r hr]; simp [h1, h2]) (fun _ => by omega) (fun _ => by omega) (by split <;> rfl) (by split <;> rfl)
  have g1 : wa_standAgainst_20 2000 T P x c (nI t) (nI p) (nI q) (nI a) (nI b) 2000 0 0 0 I2 = _ := g1
  have g2 : r_laysWait_43 2000 z (nI p) (nI q) (nI t) (nI a) (nI b) 2000 0 0 0 Iz7 = _ := g2
  rw [g1, g2, Option.bind_some, Option.bind_some]
  try dsimp only
  rw [show nI a * 21 = nI (a * 21) from pk_mul a 21, show (21 : Int32) * nI a = nI (21 * a) from pk_mul 21 a, nI_add, nI_add, show a * 21 + b = 21 * a + b by omega, chk_nI (show 21 * a + b < 441 by omega) (by decide), nI_cl (show 21 * a + b < 2147483648 by omega), chk_nI (show p < 6 by omega) (by decide), chk_nI (show q < 6 by omega) (by decide), nI_cl (show p < 2147483648 by omega), nI_cl (show q < 2147483648 by omega), show Int32.toNatClampNeg 1 = 1 from rfl, show Int32.toNatClampNeg 0 = 0 from rfl]
  have rp := (S3.2.2.2.2.1.2.2.2.2 p hp).2.1 rfl
  have rq := (S3.2.2.2.2.1.2.2.2.2 q hq).2.1 rfl
  have of := S3.2.2.2.1.1.2.2.2.2.2.2
  have wo : ∀ (K : Nat → Nat → Int32) (i : Nat), i < 2 → K (z + 1) = Iz3 (z + 1) → r_worthOf K z (nI i) = some (I3 (c + 4) i) := fun K i hi hk => by
    unfold r_worthOf
    rw [if_neg (show ¬ (6 : Int32) ≤ nI i from nI_ge (b := 6) (by omega) (by decide)), show (26 : Int32) + nI i = nI (26 + i) from nI_add 26 i, chk_nI (show 26 + i < 3891 by omega) (by decide), nI_cl (by omega), hk, (of i (by omega)).1]
  have w0 : ∀ (K : Nat → Nat → Int32), K (z + 1) = Iz3 (z + 1) → r_worthOf K z 0 = some (I3 (c + 4) 0) := fun K hk => wo K 0 (by decide) hk
  have w1 : ∀ (K : Nat → Nat → Int32), K (z + 1) = Iz3 (z + 1) → r_worthOf K z 1 = some (I3 (c + 4) 1) := fun K hk => wo K 1 (by decide) hk
  have fin : ∀ (v1 v2 : Int32), ∃ Iz4, r_isAgain 2000 (uI (uI Iz3 (z + 15) (21 * a + b) v1) (z + 16) (21 * a + b) v2) z = some Iz4 ∧ Wx I (uI (uI I3 (x + 118) (21 * a + b) v1) (x + 119) (21 * a + b) v2) x c ∧ RS (uI (uI I3 (x + 118) (21 * a + b) v1) (x + 119) (21 * a + b) v2) (x + 120) n (mpair (Iz (z + 1)) p q) true ∧ Kw Iz Iz4 z ∧ Lay (uI (uI I3 (x + 118) (21 * a + b) v1) (x + 119) (21 * a + b) v2) x Iz4 z (21 * a + b) ∧ ∀ k, k ≠ 21 * a + b → Lay I1 x Iz1 z k → Lay (uI (uI I3 (x + 118) (21 * a + b) v1) (x + 119) (21 * a + b) v2) x Iz4 z k := fun v1 v2 => by
    obtain ⟨Iz4, b1, b2, b3⟩ := r_isAgain_is (I := uI (uI Iz3 (z + 15) (21 * a + b) v1) (z + 16) (21 * a + b) v2) (z := z)
    have n7 : Iz3 (z + 7) = Iz1 (z + 7) := by rw [fr.1 _ (by omega) (by omega) (by omega) (by omega) (by omega), o7 _ (by omega)]
    have i118 : I3 (x + 118) = I1 (x + 118) := by rw [fx _ (by omega) (by omega) (by omega) (by omega), q2 _ (by omega)]
    have i119 : I3 (x + 119) = I1 (x + 119) := by rw [fx _ (by omega) (by omega) (by omega) (by omega), q2 _ (by omega)]
    have j15 : Iz3 (z + 15) = Iz1 (z + 15) := by rw [fr.1 _ (by omega) (by omega) (by omega) (by omega) (by omega), o7 _ (by omega)]
    have j16 : Iz3 (z + 16) = Iz1 (z + 16) := by rw [fr.1 _ (by omega) (by omega) (by omega) (by omega) (by omega), o7 _ (by omega)]
    have f15 : Iz4 (z + 15) = upd (Iz1 (z + 15)) (21 * a + b) v1 := by rw [b3 _ (by omega), uI_row _ _ _ _ _ (by omega), uI_s, j15]
    have f16 : Iz4 (z + 16) = upd (Iz1 (z + 16)) (21 * a + b) v2 := by rw [b3 _ (by omega), uI_s, uI_row _ _ _ _ _ (by omega), j16]
    refine ⟨Iz4, b1, fun r a1 a2 a3 a4 a5 => ?_, ?_, ⟨fun k hk => ?_, ?_, fun r a0 a5 a6 a7 a8 a9 a15 a16 => ?_, fun k hk => ?_⟩, ⟨?_, ?_⟩, fun k hk hl => ⟨?_, ?_⟩⟩
    · rw [uI_row _ _ _ _ _ (by omega), uI_row _ _ _ _ _ (by omega), fx r (by omega) a3 a4 a5, x2 r a1 a2 a3 a4 a5]
    · refine hR.same (fun r a1 a2 => ?_)
      rw [uI_row _ _ _ _ _ (by omega), uI_row _ _ _ _ _ (by omega), fx r (by omega) (by omega) (by omega) (by omega), q2 r (by omega)]
    · rw [b3 _ (by omega), uI_row _ _ _ _ _ (by omega), uI_row _ _ _ _ _ (by omega), n7]
      exact hK.1 k hk
    · rw [b2]
      refine mbk_same (fun k hk => ?_) (fun k hk => ?_)
      · rw [uI_row _ _ _ _ _ (by omega), uI_row _ _ _ _ _ (by omega), fr.2 k hk, r7, mpair_o (by omega) (by omega) (by omega)]
      · rw [uI_row _ _ _ _ _ (by omega), uI_row _ _ _ _ _ (by omega), n7]
        exact hK.1 k hk
    · by_cases e1 : r = z + 1
      · subst e1
        rw [b2]
        refine mbk_same (fun k hk => ?_) (fun k hk => ?_)
        · rw [uI_row _ _ _ _ _ (by omega), uI_row _ _ _ _ _ (by omega), fr.2 k hk, r7, mpair_o (by omega) (by omega) (by omega)]
        · rw [uI_row _ _ _ _ _ (by omega), uI_row _ _ _ _ _ (by omega), n7]
          exact hK.1 k hk
      · rw [b3 r e1, uI_row _ _ _ _ _ a16, uI_row _ _ _ _ _ a15, fr.1 r e1 a5 a6 a8 a9, o7 r e1, hK.2.2.1 r a0 a5 a6 a7 a8 a9 a15 a16]
    · rw [b3 _ (by omega), uI_row _ _ _ _ _ (by omega), uI_row _ _ _ _ _ (by omega), fr.1 _ (by omega) (by omega) (by omega) (by omega) (by omega), o7 _ (by omega), hK.2.2.2 k hk]
    · rw [uI_row _ _ _ _ _ (by omega), uI_e, f15, pk_us]
    · rw [uI_e, f16, pk_us]
    · rw [uI_row _ _ _ _ _ (by omega), uI_k _ _ _ _ _ hk, f15, pk_un hk, i118]
      exact hl.1
    · rw [uI_k _ _ _ _ _ hk, uI_row _ _ _ _ _ (by omega), f16, pk_un hk, i119]
      exact hl.2
  have c4 : ∀ (v1 : Int32) (i : Nat), uI I3 (x + 118) (21 * a + b) v1 (c + 4) i = I3 (c + 4) i := fun v1 i => by rw [uI_row _ _ _ _ _ (by omega)]
  have p2 : ∀ (v1 : Int32), uI I3 (x + 118) (21 * a + b) v1 (x + 127 + 2) q = I3 (x + 127 + 2) q := fun v1 => by rw [uI_row _ _ _ _ _ (by omega)]
  have z47 : ∀ (v1 : Int32), uI Iz3 (z + 15) (21 * a + b) v1 (z + 1) (47 + q) = Iz3 (z + 1) (47 + q) := fun v1 => by rw [uI_row _ _ _ _ _ (by omega)]
  have zz : ∀ (v1 : Int32), uI Iz3 (z + 15) (21 * a + b) v1 (z + 1) = Iz3 (z + 1) := fun v1 => by rw [uI_row _ _ _ _ _ (by omega)]
  by_cases k1 : y1 ≤ y2
  · rw [if_pos k1, if_pos k1, w1 _ rfl, Option.bind_some]
    try dsimp only
    by_cases k2 : y2 ≤ y1
    · rw [if_pos k2, if_pos k2, w1 _ (zz _), Option.bind_some]
      try dsimp only
      rw [c4, p2, z47, rp, rq]
      obtain ⟨Iz4, b1, b2⟩ := fin (I3 (c + 4) 1 - Iz3 (z + 1) (47 + p)) (I3 (c + 4) 1 - Iz3 (z + 1) (47 + q))
      rw [b1, Option.bind_some]
      simp (disch := omega) only [chk_nI]
      exact ⟨_, _, rfl, rfl, b2⟩
    · rw [if_neg k2, if_neg k2, w0 _ (zz _), Option.bind_some]
      try dsimp only
      rw [c4, p2, z47, rp, rq]
      obtain ⟨Iz4, b1, b2⟩ := fin (I3 (c + 4) 1 - Iz3 (z + 1) (47 + p)) (I3 (c + 4) 0 - Iz3 (z + 1) (47 + q))
      rw [b1, Option.bind_some]
      simp (disch := omega) only [chk_nI]
      exact ⟨_, _, rfl, rfl, b2⟩
  · rw [if_neg k1, if_neg k1, w0 _ rfl, Option.bind_some]
    try dsimp only
    by_cases k2 : y2 ≤ y1
    · rw [if_pos k2, if_pos k2, w1 _ (zz _), Option.bind_some]
      try dsimp only
      rw [c4, p2, z47, rp, rq]
      obtain ⟨Iz4, b1, b2⟩ := fin (I3 (c + 4) 0 - Iz3 (z + 1) (47 + p)) (I3 (c + 4) 1 - Iz3 (z + 1) (47 + q))
      rw [b1, Option.bind_some]
      simp (disch := omega) only [chk_nI]
      exact ⟨_, _, rfl, rfl, b2⟩
    · rw [if_neg k2, if_neg k2, w0 _ (zz _), Option.bind_some]
      try dsimp only
      rw [c4, p2, z47, rp, rq]
      obtain ⟨Iz4, b1, b2⟩ := fin (I3 (c + 4) 0 - Iz3 (z + 1) (47 + p)) (I3 (c + 4) 0 - Iz3 (z + 1) (47 + q))
      rw [b1, Option.bind_some]
      simp (disch := omega) only [chk_nI]
      exact ⟨_, _, rfl, rfl, b2⟩
end
