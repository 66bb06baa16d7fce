/-! chances: numbers; the common divisor -/
theorem l64_eq {a b : Int64} (h : a.toInt = b.toInt) : a = b := Int64.toInt_inj.mp h
theorem lN_div {a b : Nat} (ha : a < 2 ^ 62) (hb : b < 2 ^ 62) (h0 : 0 < b) : lN a / lN b = lN (a / b) := by
  have hq : a / b ≤ a := Nat.div_le_self a b
  refine l64_eq ?_
  rw [Int64.toInt_div, pk_lT (by omega), pk_lT (by omega), pk_lT (by omega)]
  have e : (a : Int).tdiv (b : Int) = ((a / b : Nat) : Int) := by
    rw [Int.tdiv_eq_ediv_of_nonneg (by omega)]
    rfl
  rw [e]
  generalize a / b = w at hq ⊢
  exact Int.bmod_eq_of_le (by omega) (by omega)
theorem lN_mod {a b : Nat} (ha : a < 2 ^ 62) (hb : b < 2 ^ 62) (h0 : 0 < b) : lN a - lN a / lN b * lN b = lN (a % b) := by
  rw [lN_div ha hb h0, lN_mul]
  have e := Nat.div_add_mod a b
  have e2 : b * (a / b) = a / b * b := Nat.mul_comm _ _
  have hm := Nat.mod_lt a h0
  refine l64_eq ?_
  rw [Int64.toInt_sub, pk_lT (show a < 2 ^ 63 by omega), pk_lT (show a / b * b < 2 ^ 63 by omega), pk_lT (show a % b < 2 ^ 63 by omega)]
  have : (a : Int) - ((a / b * b : Nat) : Int) = ((a % b : Nat) : Int) := by omega
  rw [this]
  exact Int.bmod_eq_of_le (by omega) (by omega)
theorem lN_0 {b : Nat} (hb : b < 2 ^ 62) : (lN b = 0) ↔ b = 0 := by
  constructor
  · intro h
    have := pk_lT (n := b) (by omega)
    rw [h] at this
    have k : (0 : Int64).toInt = 0 := rfl
    omega
  · intro h; rw [h]; rfl
theorem cmp_0 {b : Nat} (hb : b < 2 ^ 62) : (lg_cmp (lN b) 0 = 0) ↔ b = 0 := by
  rw [lg_cmp_eq]
  exact lN_0 hb
theorem nzl_ne {α : Type} {w : Int64} {r : Option α} (h : ¬ w = 0) : nzl w r = r := if_neg h
theorem gcd_st {a b : Nat} : Nat.gcd a b = Nat.gcd b (a % b) := by
  rw [Nat.gcd_comm, Nat.gcd_rec, Nat.gcd_comm]
theorem half_st {b r k : Nat} (hr : 0 < r) (hrb : r < b) (hb : b < 2 ^ (k + 1)) : b % r < 2 ^ k := by
  have h1 := Nat.mod_lt b hr
  have h2 : b % r + r ≤ b := by
    have e := Nat.div_add_mod b r
    have : 1 ≤ b / r := (Nat.one_le_div_iff hr).mpr (by omega)
    have : r * 1 ≤ r * (b / r) := Nat.mul_le_mul_left r this
    omega
  rw [Nat.pow_succ] at hb
  omega
theorem xgcd_go {g0 g2 : Int64} : ∀ (k a b i f : Nat), a < 2 ^ 62 → b < 2 ^ 62 → b < 2 ^ k → i + 2 * k + 2 ≤ 200 → 2 * k + 2 < f → ∃ m y, x_commonDivisor_9 2000 g0 g2 f (lN a) (lN b) (nI i) = some (lN (Nat.gcd a b), m, y) := by
  have stop : ∀ (a i f : Nat), i < 200 → 0 < f → ∃ m y, x_commonDivisor_9 2000 g0 g2 f (lN a) (lN 0) (nI i) = some (lN (Nat.gcd a 0), m, y) := fun a i f hi hf => by
    obtain ⟨f, rfl⟩ : ∃ f', f = f' + 1 := ⟨f - 1, by omega⟩
    rw [x_commonDivisor_9, if_neg (show ¬ (200 : Int32) ≤ nI i from nI_ge (b := 200) (by omega) (by decide)), if_pos ((cmp_0 (by decide)).mpr rfl), Nat.gcd_zero_right]
    exact ⟨_, _, rfl⟩
  have step : ∀ (a b i f : Nat), a < 2 ^ 62 → b < 2 ^ 62 → 0 < b → i < 200 → x_commonDivisor_9 2000 g0 g2 (f + 1) (lN a) (lN b) (nI i) = x_commonDivisor_9 2000 g0 g2 f (lN b) (lN (a % b)) (nI (i + 1)) := fun a b i f ha hb h0 hi => by
    rw [x_commonDivisor_9, if_neg (show ¬ (200 : Int32) ≤ nI i from nI_ge (b := 200) (by omega) (by decide)), if_neg (fun cc => by have := (cmp_0 hb).mp cc; omega), nzl_ne (fun cc => by have := (lN_0 hb).mp cc; omega)]
    try dsimp only
    rw [lN_mod ha hb h0, nI_1]
  intro k
  induction k with
  | zero =>
    intro a b i f ha hb hk hi hf
    obtain rfl : b = 0 := by omega
    exact stop a i f (by omega) (by omega)
  | succ k ih =>
    intro a b i f ha hb hk hi hf
    by_cases b0 : b = 0
    · subst b0
      exact stop a i f (by omega) (by omega)
    obtain ⟨f, rfl⟩ : ∃ f', f = f' + 1 := ⟨f - 1, by omega⟩
    have hr := Nat.mod_lt a (show 0 < b by omega)
    rw [step a b i f ha hb (by omega) (by omega), gcd_st (a := a) (b := b)]
    by_cases r0 : a % b = 0
    · rw [r0]
      exact stop b (i + 1) f (by omega) (by omega)
    obtain ⟨f, rfl⟩ : ∃ f', f = f' + 1 := ⟨f - 1, by omega⟩
    rw [step b (a % b) (i + 1) f hb (by omega) (by omega) (by omega), gcd_st (a := b) (b := a % b)]
    have hh := half_st (r := a % b) (by omega) hr hk
    have hr2 := Nat.mod_lt b (show 0 < a % b by omega)
    exact ih (a % b) (b % (a % b)) (i + 1 + 1) f (by omega) (by omega) hh (by omega) (by omega)
theorem rgcd_go : ∀ (k a b kr : Nat), a < 2 ^ 62 → b < 2 ^ 62 → b < 2 ^ k → 2 * k + 1 < kr → r_common 2000 kr (lN a) (lN b) = some (lN (Nat.gcd a b)) := by
  have stop : ∀ (a kr : Nat), 0 < kr → r_common 2000 kr (lN a) (lN 0) = some (lN (Nat.gcd a 0)) := fun a kr hf => by
    obtain ⟨kr, rfl⟩ : ∃ f', kr = f' + 1 := ⟨kr - 1, by omega⟩
    rw [r_common]
    unfold r_commonB
    rw [if_pos ((cmp_0 (by decide)).mpr rfl), Nat.gcd_zero_right]
  have step : ∀ (a b kr : Nat) (v : Int64), a < 2 ^ 62 → b < 2 ^ 62 → 0 < b → r_common 2000 kr (lN b) (lN (a % b)) = some v → r_common 2000 (kr + 1) (lN a) (lN b) = some v := fun a b kr v ha hb h0 h => by
    rw [r_common]
    unfold r_commonB
    rw [if_neg (fun cc => by have := (cmp_0 hb).mp cc; omega), nzl_ne (fun cc => by have := (lN_0 hb).mp cc; omega), lN_mod ha hb h0, h]
    rfl
  intro k
  induction k with
  | zero =>
    intro a b kr ha hb hk hf
    obtain rfl : b = 0 := by omega
    exact stop a kr (by omega)
  | succ k ih =>
    intro a b kr ha hb hk hf
    by_cases b0 : b = 0
    · subst b0
      exact stop a kr (by omega)
    obtain ⟨kr, rfl⟩ : ∃ f', kr = f' + 1 := ⟨kr - 1, by omega⟩
    have hr := Nat.mod_lt a (show 0 < b by omega)
    refine step a b kr _ ha hb (by omega) ?_
    rw [gcd_st (a := a) (b := b)]
    by_cases r0 : a % b = 0
    · rw [r0]
      exact stop b kr (by omega)
    obtain ⟨kr, rfl⟩ : ∃ f', kr = f' + 1 := ⟨kr - 1, by omega⟩
    refine step b (a % b) kr _ hb (by omega) (by omega) ?_
    rw [gcd_st (a := b) (b := a % b)]
    have hh := half_st (r := a % b) (by omega) hr hk
    have hr2 := Nat.mod_lt b (show 0 < a % b by omega)
    exact ih (a % b) (b % (a % b)) kr (by omega) (by omega) hh (by omega)
theorem gcd_is {a b : Nat} (ha : a < 2 ^ 40) (hb : b < 2 ^ 40) : x_commonDivisor 2000 (lN a) (lN b) = some (lN (Nat.gcd a b)) ∧ r_commonB_f 2000 (lN a) (lN b) = some (lN (Nat.gcd a b)) := by
  constructor
  · unfold x_commonDivisor
    obtain ⟨m, y, h⟩ := xgcd_go (g0 := lN a) (g2 := lN b) 40 a b 0 2000 (by omega) (by omega) hb (by omega) (by omega)
    have h : x_commonDivisor_9 2000 (lN a) (lN b) 2000 (lN a) (lN b) 0 = _ := h
    rw [h]
    rfl
  · unfold r_commonB_f
    exact rgcd_go 40 a b 200 (by omega) (by omega) hb (by omega)
/-! chances: weights as a function of rows -/
def mws (f : Nat → Nat) : Nat → Nat → Nat
  | 0, _ => 0
  | j + 1, t => f t + mws f j (t + 1)
def od (A : Row) (t : Nat) : Nat := (A (22 + t)).toNatClampNeg
def Ods (A : Row) : Prop := ∀ t, t < 4 → od A t ≤ 9 ∧ A (22 + t) = nI (od A t)
theorem Ods.row {A A' : Row} (h : Ods A) (e : ∀ t, t < 4 → A' (22 + t) = A (22 + t)) : Ods A' ∧ ∀ t, t < 4 → od A' t = od A t := by
  have e2 : ∀ t, t < 4 → od A' t = od A t := fun t ht => by unfold od; rw [e t ht]
  exact ⟨fun t ht => by rw [e2 t ht, e t ht]; exact h t ht, e2⟩
def mwt (LT LP : Row → Int32) (n tn : Nat) : Nat → Nat → Row → Nat → Nat
  | 0, u, A, p => if 0 < n ∧ p = mFs A u n then 1 else 0
  | j + 1, u, A, p => mws (fun t => od A t * mwt LT LP n tn j (mplay LT LP A n u t).1 (mplay LT LP A n u t).2 p) tn 0
theorem mws_ext {f g : Nat → Nat} : ∀ (j t : Nat), (∀ i, t ≤ i → i < t + j → f i = g i) → mws f j t = mws g j t
  | 0, t, _ => rfl
  | j + 1, t, h => by
    rw [mws, mws, h t (by omega) (by omega), mws_ext j (t + 1) (fun i a b => h i (by omega) (by omega))]
theorem mws_mul {f : Nat → Nat} {c : Nat} : ∀ (j t : Nat), mws (fun i => f i * c) j t = mws f j t * c
  | 0, t => by rw [mws, mws, Nat.zero_mul]
  | j + 1, t => by rw [mws, mws, mws_mul j (t + 1), Nat.add_mul]
theorem mws_le {f g : Nat → Nat} : ∀ (j t : Nat), (∀ i, t ≤ i → i < t + j → f i ≤ g i) → mws f j t ≤ mws g j t
  | 0, t, _ => Nat.le_refl _
  | j + 1, t, h => by
    rw [mws, mws]
    exact Nat.add_le_add (h t (by omega) (by omega)) (mws_le j (t + 1) (fun i a b => h i (by omega) (by omega)))
section
variable {LT LP : Row → Int32} {n tn : Nat}
theorem ods_play {A : Row} {u t : Nat} (hn : n ≤ 6) (h : Ods A) : Ods (mplay LT LP A n u t).2 ∧ ∀ i, i < 4 → od (mplay LT LP A n u t).2 i = od A i := h.row (fun i hi => mplay_out2 hn (by omega))
/-- a weight is at most all odds to the power of the minutes -/
theorem mwt_le (hn : n ≤ 6) (ht : tn ≤ 4) : ∀ (j u : Nat) (A : Row) (p : Nat), Ods A → mwt LT LP n tn j u A p ≤ mws (od A) tn 0 ^ j
  | 0, u, A, p, h => by
    unfold mwt
    rw [Nat.pow_zero]
    split <;> omega
  | j + 1, u, A, p, h => by
    unfold mwt
    rw [Nat.pow_succ, Nat.mul_comm, ← mws_mul]
    refine mws_le tn 0 (fun i a b => Nat.mul_le_mul_left _ ?_)
    have o := ods_play (LT := LT) (LP := LP) (u := u) (t := i) hn h
    have e : mws (od (mplay LT LP A n u i).2) tn 0 = mws (od A) tn 0 := mws_ext tn 0 (fun k a b => o.2 k (by omega))
    have := mwt_le hn ht j (mplay LT LP A n u i).1 (mplay LT LP A n u i).2 p o.1
    rw [e] at this
    exact this
theorem pc1 : ∀ u, u < 64 → pcn u < 2 → u = 0 ∨ ∃ r, r < 6 ∧ ub u r = true ∧ ∀ q, q < 6 → q ≠ r → ub u q = false := by decide +kernel
theorem z_ub : ∀ q, q < 6 → ub 0 q = false := by decide +kernel
/-- whom all others are behind is the first -/
theorem mFs_of {A : Row} {u p : Nat} (hp : p < n) (h : ∀ q, q < n → q ≠ p → mAh A u q p = false) : mFs A u n = p := by
  have := (mPc_first (A := A) (u := u) hp).mp ((mPc_zero (A := A) (u := u) (p := p) n).mpr h)
  exact this.symm
/-- where at most one stands, a minute leaves who is first -/
theorem first_play {A : Row} {u t e : Nat} (hW : Wf A n u) (hE : Evb A n e) (he : e < 1000000) (h0 : 0 < n) (h1 : pcn u < 2) : mFs (mplay LT LP A n u t).2 (mplay LT LP A n u t).1 n = mFs A u n := by
  have hn := hW.1
  have hu := hW.u64
  rcases pc1 u hu h1 with h0u | ⟨r, hr, r1, r2⟩
  · have dn : ∀ q, q < 6 → ub u q = false := fun q hq => by rw [h0u]; exact z_ub q hq
    have dn' : ∀ q, q < 6 → ub (mplay LT LP A n u t).1 q = false := fun q hq => by
      cases hh : ub (mplay LT LP A n u t).1 q with
      | false => rfl
      | true =>
        have h2 := mplay_up hn hu hq hh
        rw [dn q hq] at h2
        cases h2
    have sat : ∀ q, q < 6 → (mplay LT LP A n u t).2 (53 + q) = A (53 + q) := fun q hq => by
      rw [mplay_sat hn hu hq, if_neg (fun cc => by rw [dn q hq] at cc; cases cc.1)]
    have hl := mFs_lt A u n h0
    refine mFs_of hl (fun q hq hne => ?_)
    have := mFs_top A u n q hq
    unfold mAh at this ⊢
    rw [dn q (by omega), dn _ (by omega)] at this
    rw [dn' q (by omega), dn' _ (by omega), sat q (by omega), sat _ (by omega)]
    exact this
  · have hrn : r < n := by
      by_cases c : r < n
      · exact c
      · have := ub_out (p := r) hW.2.2.2.1 (by omega)
        rw [r1] at this
        cases this
    have e1 : mFs A u n = r := mFs_of hrn (fun q hq hne => by
      unfold mAh
      rw [r1, r2 q (by omega) hne]
      rfl)
    rw [e1]
    refine mFs_of hrn (fun q hq hne => ?_)
    have dq : ub (mplay LT LP A n u t).1 q = false := by
      cases hh : ub (mplay LT LP A n u t).1 q with
      | false => rfl
      | true =>
        have := mplay_up hn hu (show q < 6 by omega) hh
        rw [r2 q (by omega) hne] at this
        cases this
    have sq : (mplay LT LP A n u t).2 (53 + q) = A (53 + q) := by
      rw [mplay_sat hn hu (by omega), if_neg (fun cc => by rw [r2 q (by omega) hne] at cc; cases cc.1)]
    unfold mAh
    rw [dq]
    cases hh : ub (mplay LT LP A n u t).1 r with
    | true => rfl
    | false =>
      have sr : (mplay LT LP A n u t).2 (53 + r) = nI (e + 1) := by
        rw [mplay_sat hn hu hr, if_pos ⟨r1, hh⟩, hE.1, nI_1]
      obtain ⟨s, a1, a2, -⟩ := hE.2 q hq
      rw [if_pos rfl, if_neg (show ¬ false = true by decide), sq, sr, a2, if_neg (fun cc => by have := (nI_eq (by omega) (by omega)).mp cc; omega)]
      exact decide_eq_false (nI_nlt (a := e + 1) (b := s) (by omega) (by omega))
theorem pcn_play {A : Row} {u t : Nat} (hW : Wf A n u) : pcn (mplay LT LP A n u t).1 ≤ pcn u := mplp_pcn hW.u64 n hW.1
/-- where at most one stands, all the weight goes to the first -/
theorem mwt_one (ht : tn ≤ 4) : ∀ (j u e : Nat) (A : Row) (p : Nat), e + j < 1000000 → Ods A → Wf A n u → RP A LP → Evb A n e → 0 < n → pcn u < 2 → mwt LT LP n tn j u A p = if p = mFs A u n then mws (od A) tn 0 ^ j else 0
  | 0, u, e, A, p, he, hO, hW, hP, hE, h0, h1 => by
    unfold mwt
    rw [Nat.pow_zero]
    by_cases c : p = mFs A u n
    · rw [if_pos ⟨h0, c⟩, if_pos c]
    · rw [if_neg (fun cc => c cc.2), if_neg c]
  | j + 1, u, e, A, p, he, hO, hW, hP, hE, h0, h1 => by
    have hn := hW.1
    have key : ∀ i, i < 0 + tn → od A i * mwt LT LP n tn j (mplay LT LP A n u i).1 (mplay LT LP A n u i).2 p = od A i * (if p = mFs A u n then mws (od A) tn 0 ^ j else 0) := fun i hi => by
      have o := ods_play (LT := LT) (LP := LP) (u := u) (t := i) hn hO
      have e2 : mws (od (mplay LT LP A n u i).2) tn 0 = mws (od A) tn 0 := mws_ext tn 0 (fun k a b => o.2 k (by omega))
      have ev := evb_play (LT := LT) (t := i) hW hP hE (by omega)
      rw [mwt_one ht j (mplay LT LP A n u i).1 (e + 1) (mplay LT LP A n u i).2 p (by omega) o.1 hW.play ev.1 ev.2 h0 (Nat.lt_of_le_of_lt (pcn_play hW) h1), first_play hW hE (by omega) h0 h1, e2]
    unfold mwt
    rw [mws_ext tn 0 (fun i a b => key i b), mws_mul]
    split
    · rw [Nat.pow_succ, Nat.mul_comm]
    · rw [Nat.mul_zero]
end
