/-! the fewest chairs -/
def mnt (LT LP : Row → Int32) (n : Nat) (tl : Nat → Nat) : Nat → Nat → Nat × Row → Nat × Row
  | _, 0, X => X
  | k, j + 1, X => mnt LT LP n tl (k + 1) j (mplay LT LP X.2 n X.1 (tl k))
def mss (s : Nat) : Nat → Nat → Nat × Row → Nat × Row
  | _, 0, X => X
  | k, j + 1, X => mss s (k + 1) j (if ub s k = true then (clr X.1 k, mseat X.2 X.1 k) else X)
def chairQ (LT LP : Row → Int32) (A : Row) (n u m : Nat) (tl : Nat → Nat) (p s : Nat) : Bool := decide (mFs (mnt LT LP n tl 0 m (mss s 0 n (u, A))).2 (mnt LT LP n tl 0 m (mss s 0 n (u, A))).1 n = p)
def subs (l o : Nat) : Bool := decide ((nI l &&& (nI o ^^^ (-1))) = 0)
theorem subs_le : ∀ l, l < 64 → ∀ o, o < 64 → subs l o = true → l ≤ o := by decide +kernel
theorem subs_ub : ∀ l, l < 64 → ∀ o, o < 64 → subs l o = true → ∀ p, p < 6 → ub o p = false → ub l p = false := by decide +kernel
theorem pcn5 : ∀ l, l < 64 → ∀ p, p < 6 → ub l p = false → pcn l ≤ 5 := by decide +kernel
section
variable {T : Nat → Option (Nat × Nat)} {I : Nat → Nat → Int32} {J : Nat → Nat → Int64} {P : Nat → Nat → Option Nat} {x nn a c : Nat} {Iz : Nat → Nat → Int32} {Jz : Nat → Nat → Int64} {z N n u tn : Nat} {LT LP : Row → Int32} {d na v e : Nat}
theorem thr_gx {t m : Nat} {tl : Nat → Nat} {g2 : Int32} (hc : c = x + 4 ∨ x + 224 ≤ c) (ha : a + 6 < x + 108 ∨ x + 109 < a) : ∀ (j k f g e u : Nat) (I Iz : Nat → Nat → Int32), k + j = m → j < f → j < g → e + j < 1000000 → Sm T I P a c Iz z n u tn LT LP e false → Ngt I x Iz Jz z t m tn tl →
    ∃ I1 Iz1, ni_playThrough_2 2000 T P x c a f (nI k) I = some (nI m, I1) ∧ r_goes_3 2000 Jz z (nI t) g2 (nI m) g (nI k) Iz = some (nI m, Iz1) ∧ Iz1 (z + 1) = (mnt LT LP n tl k j (u, Iz (z + 1))).2 ∧ Sm T I1 P a c Iz1 z n (mnt LT LP n tl k j (u, Iz (z + 1))).1 tn LT LP (e + j) false ∧ Fx I I1 a c ∧ Fr Iz Iz1 z := by
  intro j
  induction j with
  | zero =>
    intro k f g e u I Iz hk hf hg he hS hN
    obtain ⟨f, rfl⟩ : ∃ f', f = f' + 1 := ⟨f - 1, by omega⟩
    obtain ⟨g, rfl⟩ : ∃ f', g = f' + 1 := ⟨g - 1, by omega⟩
    obtain rfl : k = m := by omega
    refine ⟨I, Iz, ?_, ?_, rfl, hS, Fx.rf, Fr.rf⟩
    · rw [ni_playThrough_2, hN.2.2.1, if_pos (nI_le (Nat.le_refl _) (by have := hN.2.1; omega))]
    · rw [r_goes_3, if_pos (nI_le (Nat.le_refl _) (by have := hN.2.1; omega))]
  | succ j ih =>
    intro k f g e u I Iz hk hf hg he hS hN
    obtain ⟨f, rfl⟩ : ∃ f', f = f' + 1 := ⟨f - 1, by omega⟩
    obtain ⟨g, rfl⟩ : ∃ f', g = f' + 1 := ⟨g - 1, by omega⟩
    obtain ⟨n1, n2, n3, n4, n5⟩ := id hN
    obtain ⟨m1, m2, m3⟩ := n5 k (by omega)
    obtain ⟨I1, Iz1, cnt, e1, e2, e3, S1, fx, fr⟩ := cp_pl (w := false) (t := tl k) hS (by omega) (fun cc => by cases cc)
    have e1 : s_playMinute 2000 T I P a c (nI (tl k)) 0 = some I1 := e1
    rw [ni_playThrough_2, n3, if_neg (nI_ge (by omega) (by omega)), chk_nI (by omega) (by decide), nI_cl (by omega), m1, e1, Option.bind_some, nI_1]
    rw [r_goes_3, if_neg (nI_ge (by omega) (by omega)), show (40 : Int32) * nI t = nI (40 * t) from pk_mul 40 t, nI_add, chk_nI (by omega) (by decide), nI_cl (by omega), m2, lN_i, e2, Option.bind_some, nI_1]
    obtain ⟨I2, Iz2, g1, g2', g3, S2, fx2, fr2⟩ := ih (k + 1) f g (e + 1) _ I1 Iz1 (by omega) (by omega) (by omega) (by omega) S1 (hN.go hc ha fx fr)
    rw [e3] at g3 S2
    refine ⟨I2, Iz2, g1, g2', g3, ?_, fx.tr fx2, fr.tr fr2⟩
    rw [show e + (j + 1) = e + 1 + j by omega]
    exact S2
theorem thr_x {t m : Nat} {tl : Nat → Nat} (hc : c = x + 4 ∨ x + 224 ≤ c) (ha : a + 6 < x + 108 ∨ x + 109 < a) (he : e < 900000) (hS : Sm T I P a c Iz z n u tn LT LP e false) (hN : Ngt I x Iz Jz z t m tn tl) : ∃ I1 Iz1, ni_playThrough 2000 T I P x c a = some I1 ∧ r_goes 2000 Iz Jz z (nI t) 0 (nI m) = some Iz1 ∧ Iz1 (z + 1) = (mnt LT LP n tl 0 m (u, Iz (z + 1))).2 ∧ Sm T I1 P a c Iz1 z n (mnt LT LP n tl 0 m (u, Iz (z + 1))).1 tn LT LP (e + m) false ∧ Fx I I1 a c ∧ Fr Iz Iz1 z := by
  have hm := hN.2.1
  obtain ⟨I1, Iz1, e1, e2, e3⟩ := thr_gx (g2 := 0) hc ha m 0 2000 2000 e u I Iz (by omega) (by omega) (by omega) (by omega) hS hN
  have e1 : ni_playThrough_2 2000 T P x c a 2000 0 I = _ := e1
  have e2 : r_goes_3 2000 Jz z (nI t) 0 (nI m) 2000 0 Iz = _ := e2
  unfold ni_playThrough r_goes
  rw [e1, e2]
  exact ⟨I1, Iz1, rfl, rfl, e3⟩
theorem sm_seatx {a p : Nat} (hS : Sm T I P a c Iz z n u tn LT LP e true) (hp : p < n) : ∃ I1 Iz1, s_seat I a (nI p) = some I1 ∧ r_sitsOwn Iz z (nI p) = some Iz1 ∧ Iz1 (z + 1) = mseat (Iz (z + 1)) u p ∧ Sm T I1 P a c Iz1 z n (clr u p) tn LT LP (e + 1) true ∧ Fx I I1 a c ∧ Fr Iz Iz1 z := by
  obtain ⟨I1, Iz1, q1, q2, q3⟩ := sm_seat hS hp
  obtain ⟨Iz2, f1, f2, f3⟩ := r_sitsOwn_is hS.1 hp
  rw [q2] at f1
  obtain rfl := Option.some.inj f1
  exact ⟨I1, Iz1, q1, q2, f2, q3⟩
theorem shr_bit {s q : Nat} (hs : s < 64) (hq : q < 6) : ((((nI s) >>> (nI q &&& 31)) &&& 1) = 0) = (ub s q = false) := by
  have := isUp_tab s hs q hq
  cases hb : ub s q with
  | false =>
    rw [hb] at this
    by_cases c0 : (((nI s) >>> (nI q &&& 31)) &&& 1) = 0
    · simp [c0]
    · rw [if_neg c0] at this
      exact absurd this (by decide)
  | true =>
    rw [hb] at this
    by_cases c0 : (((nI s) >>> (nI q &&& 31)) &&& 1) = 0
    · rw [if_pos c0] at this
      exact absurd this (by decide)
    · simp [c0]
theorem set_go {s : Nat} {gs g1 h1 h2 h3 h4 h5 h6 : Int32} (hs : s < 64) (hgs : gs = nI s) (hcx : c = x + 4 ∨ x + 224 ≤ c) : ∀ (j k f g e u : Nat) (I Iz : Nat → Nat → Int32), k + j = n → j < f → j < g → Sm T I P (x + 101) c Iz z n u tn LT LP e true → I c 0 = nI n →
    ∃ I1 Iz1, x_lastBySeating_13 2000 x c g1 gs f (nI k) I = some (nI n, I1) ∧ r_chairs_98 2000 z h1 h2 h3 h4 h5 h6 gs g (nI k) Iz = some (nI n, Iz1) ∧ Iz1 (z + 1) = (mss s k j (u, Iz (z + 1))).2 ∧ (∃ e1, e1 ≤ e + j ∧ Sm T I1 P (x + 101) c Iz1 z n (mss s k j (u, Iz (z + 1))).1 tn LT LP e1 true) ∧ Fx I I1 (x + 101) c ∧ Fr Iz Iz1 z := by
  subst hgs
  intro j
  induction j with
  | zero =>
    intro k f g e u I Iz hk hf hg hS hc0
    obtain ⟨f, rfl⟩ : ∃ f', f = f' + 1 := ⟨f - 1, by omega⟩
    obtain ⟨g, rfl⟩ : ∃ f', g = f' + 1 := ⟨g - 1, by omega⟩
    obtain rfl : k = n := by omega
    have hn := hS.1.1
    refine ⟨I, Iz, ?_, ?_, rfl, ⟨e, by omega, hS⟩, Fx.rf, Fr.rf⟩
    · rw [x_lastBySeating_13, hc0, if_pos (nI_le (Nat.le_refl _) (by omega))]
    · rw [r_chairs_98, show Int32.toNatClampNeg 1 = 1 from rfl, hS.1.2.1, if_pos (nI_le (Nat.le_refl _) (by omega))]
  | succ j ih =>
    intro k f g e u I Iz hk hf hg hS hc0
    obtain ⟨f, rfl⟩ : ∃ f', f = f' + 1 := ⟨f - 1, by omega⟩
    obtain ⟨g, rfl⟩ : ∃ f', g = f' + 1 := ⟨g - 1, by omega⟩
    have hn := hS.1.1
    rw [x_lastBySeating_13, hc0, if_neg (nI_ge (by omega) (by omega)), r_chairs_98, show Int32.toNatClampNeg 1 = 1 from rfl, hS.1.2.1, if_neg (nI_ge (by omega) (by omega)), isIn_tab s hs k (by omega)]
    have e0 : mss s k (j + 1) (u, Iz (z + 1)) = mss s (k + 1) j (if ub s k = true then (clr u k, mseat (Iz (z + 1)) u k) else (u, Iz (z + 1))) := rfl
    rw [e0]
    cases hb : ub s k with
    | false =>
      rw [if_pos (show ((nI s >>> (nI k &&& 31)) &&& 1) = 0 by rw [shr_bit hs (by omega)]; exact hb), if_pos (show b2 false = 0 from rfl), if_neg (show ¬ false = true by decide), nI_1]
      obtain ⟨I1, Iz1, a1, a2, a3, ⟨e1, he1, a4⟩, a5, a6⟩ := ih (k + 1) f g e u I Iz (by omega) (by omega) (by omega) hS hc0
      exact ⟨I1, Iz1, a1, a2, a3, ⟨e1, by omega, a4⟩, a5, a6⟩
    | true =>
      rw [if_neg (show ¬ ((nI s >>> (nI k &&& 31)) &&& 1) = 0 by rw [shr_bit hs (by omega), hb]; decide), if_neg (show ¬ b2 true = 0 by decide), if_pos rfl]
      obtain ⟨I1, Iz1, q1, q2, q3, S1, fx, fr⟩ := sm_seatx hS (show k < n by omega)
      rw [q1, q2, Option.bind_some, Option.bind_some, nI_1]
      try dsimp only
      obtain ⟨I2, Iz2, a1, a2, a3, ⟨e1, he1, a4⟩, a5, a6⟩ := ih (k + 1) f g (e + 1) (clr u k) I1 Iz1 (by omega) (by omega) (by omega) S1 (by rw [fx c (by omega) (by omega) (by omega) (by omega)]; exact hc0)
      rw [q3] at a3 a4
      exact ⟨I2, Iz2, a1, a2, a3, ⟨e1, by omega, a4⟩, fx.tr a5, fr.tr a6⟩
/-- one set of chairs tried, on both sides -/
theorem set_is (h : InvS T I J P x nn c Iz Jz z N n u tn LT LP d na v) (hN : N < 600) {I1 : Nat → Nat → Int32} {t m p s : Nat} {tl : Nat → Nat} {Iz1 : Nat → Nat → Int32} (hx : Tx I I1 x c) (hNg : Ngt I1 x Iz1 Jz z t m tn tl) (hz : Iz1 (z + 1) = Iz (z + 1)) (hp : p < n) (hs : s < 64) {h1 h2 h3 h4 h5 h6 : Int32} :
    ∃ I2 IzA IzB pc, x_lastBySeating 2000 T I1 P x c (nI p) (nI s) = some (b2 (chairQ LT LP (Iz (z + 1)) n u m tl p s), I2) ∧ Tx I I2 x c ∧ Ngt I2 x IzB Jz z t m tn tl ∧ r_chairs_98 2000 z h1 h2 h3 h4 h5 h6 (nI s) 2000 0 Iz1 = some (nI n, IzA) ∧ IzA (z + 19) t = nI m ∧ r_goes 2000 IzA Jz z (nI t) 0 (nI m) = some IzB ∧ r_placeOf 2000 IzB z (nI p) = some pc ∧ (pc = 0 ↔ chairQ LT LP (Iz (z + 1)) n u m tl p s = true) ∧ Fr Iz1 IzB z := by
  have hcx := (h.1 c (Or.inl rfl)).1.1
  have hn := h.n6
  obtain ⟨e, I2, c1, he, S, hN2, xq, x8⟩ := trial_is (I0 := I) h (Iz1 := Iz1) hx.1 hx.2 hNg hz
  have hm := hN2.2.1
  obtain ⟨I3, IzA, a1, a2, a3, ⟨e1, he1, SA⟩, fxA, frA⟩ := set_go (g1 := nI p) (h1 := h1) (h2 := h2) (h3 := h3) (h4 := h4) (h5 := h5) (h6 := h6) hs rfl hcx n 0 2000 2000 e u I2 Iz1 (by omega) (by omega) (by omega) S (by
    rw [xq c (by omega) (by omega) (by omega) (by omega) (by omega) (by omega)]
    exact h.c0)
  have a1 : x_lastBySeating_13 2000 x c (nI p) (nI s) 2000 0 I2 = _ := a1
  have hNA := hN2.go hcx (by omega) fxA frA
  obtain ⟨I4, IzB, b1, b2', b3, SB, fxB, frB⟩ := thr_x hcx (by omega) (by omega) SA.np hNA
  rw [hz] at a3
  have ea : ((mss s 0 n (u, Iz1 (z + 1))).1, IzA (z + 1)) = mss s 0 n (u, Iz (z + 1)) := by
    rw [a3, hz]
  rw [ea] at b3 SB
  have hq : chairQ LT LP (Iz (z + 1)) n u m tl p s = decide (mFs (IzB (z + 1)) (mnt LT LP n tl 0 m (mss s 0 n (u, Iz (z + 1)))).1 n = p) := by
    unfold chairQ
    rw [b3]
  have hNB := hNA.go hcx (by omega) fxB frB
  refine ⟨I4, IzA, IzB, _, ?_, gone_x hcx xq x8 (fxA.tr fxB), hNB, a2, hNA.2.2.2.1, b2', r_placeOf_is SB.1 hp, ?_, frA.tr frB⟩
  · unfold x_lastBySeating
    rw [c1, Option.bind_some]
    try dsimp only
    rw [a1, Option.bind_some]
    try dsimp only
    rw [b1, Option.bind_some]
    try dsimp only
    rw [s_first_is SB.1 SB.2.2.2.2.1, Option.bind_some]
    try dsimp only
    unfold mF1
    rw [if_neg (show ¬ n = 0 by omega), hq]
    have hl := mFs_lt (IzB (z + 1)) (mnt LT LP n tl 0 m (mss s 0 n (u, Iz (z + 1)))).1 n (by omega)
    by_cases c0 : mFs (IzB (z + 1)) (mnt LT LP n tl 0 m (mss s 0 n (u, Iz (z + 1)))).1 n = p
    · rw [if_pos (by rw [c0]), decide_eq_true c0]
      rfl
    · rw [if_neg (fun cc => c0 ((nI_eq (by omega) (by omega)).mp cc)), decide_eq_false c0]
      rfl
  · have hle := mPc_le (IzB (z + 1)) (mnt LT LP n tl 0 m (mss s 0 n (u, Iz (z + 1)))).1 p n
    rw [hq, decide_eq_true_iff]
    constructor
    · intro cc
      have : mPc (IzB (z + 1)) (mnt LT LP n tl 0 m (mss s 0 n (u, Iz (z + 1)))).1 p n = 0 := (nI_eq (by omega) (by omega)).mp (show nI _ = nI 0 from cc)
      exact ((mPc_first hp).mp this).symm
    · intro cc
      rw [(mPc_first hp).mpr cc.symm]
      rfl
end
