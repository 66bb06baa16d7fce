/-! laws as the reference has them: codes for a stack -/
def stR (f : Row) (c : Int32) (s : List Int32) : Option (List Int32) :=
  if 3000 ≤ c then
    (if c = 3006 then (match s with | a :: s => some ((1 - a) :: s) | _ => none)
    else if c = 3009 then (match s with | e :: t :: b :: s => some ((if b = 1 then t else e) :: s) | _ => none)
    else (match s with | b :: a :: s => some (r_between c a b :: s) | _ => none))
  else if 1000 ≤ c then (if c < 1007 then some (f (c - 1000).toNatClampNeg :: s) else none)
  else some (c :: s)
def evR (f : Row) : List Int32 → List Int32 → Option (List Int32)
  | [], s => some s
  | c :: cs, s => (stR f c s).bind (evR f cs)
def SK (R : Row) : List Int32 → Prop
  | [] => True
  | a :: s => R s.length = a ∧ SK R s
theorem SK.up {R : Row} {k : Nat} {v : Int32} : ∀ {s : List Int32}, SK R s → s.length ≤ k → SK (upd R k v) s
  | [], _, _ => trivial
  | a :: s, h, hk => by
    have hk : s.length + 1 ≤ k := hk
    exact ⟨by rw [pk_un (by omega)]; exact h.1, SK.up h.2 (by omega)⟩
theorem SK.push {R : Row} {v : Int32} {s : List Int32} (h : SK R s) : SK (upd R s.length v) (v :: s) := ⟨pk_us, h.up (Nat.le_refl _)⟩
theorem len_in {s : List Int32} {N : Nat} (h : s.length < N) (hN : N < 2147483648) : vp_in (nI s.length) N := vp_in_nI h hN
/-- where a law's codes lie in the row -/
def Seg (A : Row) (g fr : Nat) (cs : List Int32) : Prop := g ≤ 1 ∧ fr + cs.length ≤ 900 ∧ A (6 + g) = nI fr ∧ A (8 + g) = nI cs.length ∧ ∀ i, i < cs.length → A (397 + fr + i) = cs.getD i 0
theorem reck_step {z g fr : Nat} {A W : Row} {p t : Int32} {cs : List Int32} (hs : Seg A g fr cs) {k f : Nat} {s s1 : List Int32} {I : Nat → Nat → Int32} (hA : I (z + 1) = A) (hW : I (z + 6) = W) (hk : k < cs.length) (hl : s.length ≤ k) (hS : SK (I (z + 5)) s) (he : stR W (cs.getD k 0) s = some s1) :
    ∃ I1, r_reckons_121 2000 z (nI g) p t (f + 1) (nI s.length) (nI k) I = r_reckons_121 2000 z (nI g) p t f (nI s1.length) (nI (k + 1)) I1 ∧ SK (I1 (z + 5)) s1 ∧ s1.length ≤ k + 1 ∧ ∀ q, q ≠ z + 5 → I1 q = I q := by
  obtain ⟨h1, h2, h3, h4, h5⟩ := hs
  have hc := h5 k hk
  generalize hcd : cs.getD k 0 = c at hc he
  have e1 : chk (8 + nI g) 3891 = fun (b : Option (Int32 × Int32 × (Nat → Nat → Int32))) => b := by
    funext b
    rw [show (8 : Int32) + nI g = nI (8 + g) from nI_add 8 g]
    exact chk_nI (by omega) (by decide)
  have e2 : chk (6 + nI g) 3891 = fun (b : Option (Int32 × Int32 × (Nat → Nat → Int32))) => b := by
    funext b
    rw [show (6 : Int32) + nI g = nI (6 + g) from nI_add 6 g]
    exact chk_nI (by omega) (by decide)
  have e3 : (8 + nI g).toNatClampNeg = 8 + g := by rw [show (8 : Int32) + nI g = nI (8 + g) from nI_add 8 g]; exact nI_cl (by omega)
  have e4 : (6 + nI g).toNatClampNeg = 6 + g := by rw [show (6 : Int32) + nI g = nI (6 + g) from nI_add 6 g]; exact nI_cl (by omega)
  have e5 : (397 : Int32) + nI fr + nI k = nI (397 + fr + k) := by rw [show (397 : Int32) + nI fr = nI (397 + fr) from nI_add 397 fr, nI_add]
  have e6 : (nI (397 + fr + k)).toNatClampNeg = 397 + fr + k := nI_cl (by omega)
  rw [r_reckons_121]
  rw [e1, e3, e2, e4, hA, h3, h4, e5, e6, hc, if_neg (nI_ge hk (by omega)), chk_nI (by omega) (by decide)]
  dsimp only
  unfold stR at he
  by_cases c1 : 3000 ≤ c
  · rw [if_pos c1] at he ⊢
    by_cases c2 : c = 3006
    · rw [if_pos c2] at he ⊢
      match s, hl, hS, he with
      | [], _, _, he => cases he
      | a :: s, hl, hS, he =>
        obtain rfl := Option.some.inj he
        have hl : s.length + 1 ≤ k := hl
        have e7 : nI (a :: s).length - 1 = nI s.length := nI_pred s.length
        rw [e7, chk_nI (by omega) (by decide), nI_cl (by omega), hS.1, nI_1]
        refine ⟨_, rfl, ?_, ?_, fun q hq => uI_n _ _ _ hq⟩
        · rw [uI_s]
          exact SK.push hS.2
        · show s.length + 1 ≤ k + 1
          omega
    · rw [if_neg c2] at he ⊢
      by_cases c3 : c = 3009
      · rw [if_pos c3] at he ⊢
        match s, hl, hS, he with
        | [], _, _, he => cases he
        | [_], _, _, he => cases he
        | [_, _], _, _, he => cases he
        | e :: tt :: b :: s, hl, hS, he =>
          obtain rfl := Option.some.inj he
          obtain ⟨g1, g2, g3, g4⟩ := hS
          have hl : s.length + 1 + 1 + 1 ≤ k := hl
          have e7 : nI (e :: tt :: b :: s).length + (-2) = nI (s.length + 1) := by
            show nI (s.length + 1 + 1 + 1) + (-2) = _
            rw [show (-2 : Int32) = -1 + -1 from rfl, ← Int32.add_assoc, pk_m1, pk_m1]
          have e8 : nI (s.length + 1) - 1 = nI s.length := nI_pred s.length
          have g1 : I (z + 5) (s.length + 1 + 1) = e := g1
          have g2 : I (z + 5) (s.length + 1) = tt := g2
          rw [e7, e8, chk_nI (by omega) (by decide), nI_cl (by omega), g3, nI_1]
          by_cases hb : b = 1
          · rw [if_pos hb, if_pos hb, chk_nI (by omega) (by decide), nI_cl (by omega), g2]
            refine ⟨_, rfl, ?_, ?_, fun q hq => uI_n _ _ _ hq⟩
            · rw [uI_s]
              exact SK.push g4
            · show s.length + 1 ≤ k + 1
              omega
          · rw [if_neg hb, if_neg hb, nI_1, chk_nI (by omega) (by decide), nI_cl (by omega), g1]
            refine ⟨_, rfl, ?_, ?_, fun q hq => uI_n _ _ _ hq⟩
            · rw [uI_s]
              exact SK.push g4
            · show s.length + 1 ≤ k + 1
              omega
      · rw [if_neg c3] at he ⊢
        match s, hl, hS, he with
        | [], _, _, he => cases he
        | [_], _, _, he => cases he
        | b :: a :: s, hl, hS, he =>
          obtain rfl := Option.some.inj he
          obtain ⟨g1, g2, g3⟩ := hS
          have hl : s.length + 1 + 1 ≤ k := hl
          have e7 : nI (b :: a :: s).length + (-1) = nI (s.length + 1) := by
            show nI (s.length + 1 + 1) + (-1) = _
            rw [pk_m1]
          have e8 : nI (s.length + 1) - 1 = nI s.length := nI_pred s.length
          have g1 : I (z + 5) (s.length + 1) = b := g1
          rw [e7, e8, chk_nI (by omega) (by decide), chk_nI (by omega) (by decide), nI_cl (by omega), nI_cl (by omega), g1, g2, nI_1]
          refine ⟨_, rfl, ?_, ?_, fun q hq => uI_n _ _ _ hq⟩
          · rw [uI_s]
            exact SK.push g3
          · show s.length + 1 ≤ k + 1
            omega
  · rw [if_neg c1] at he ⊢
    by_cases c2 : 1000 ≤ c
    · rw [if_pos c2] at he ⊢
      by_cases c3 : c < 1007
      · rw [if_pos c3] at he
        obtain rfl := Option.some.inj he
        have hin : vp_in (c - 1000) 7 := by
          rw [vp_in_iff]
          rw [i32_le] at c2
          rw [i32_lt] at c3
          have k1 : (1000 : Int32).toInt = 1000 := rfl
          have k2 : (1007 : Int32).toInt = 1007 := rfl
          rw [k1] at c2
          rw [k2] at c3
          obtain ⟨j, hj, rfl⟩ : ∃ j : Nat, j < 1007 ∧ c = nI j := by
            obtain ⟨j, hj, rfl⟩ := nI_of (x := c) (fun q => by rw [i32_lt] at q; have : (0 : Int32).toInt = 0 := rfl; omega)
            rw [nI_toInt hj] at c3
            exact ⟨j, by omega, rfl⟩
          rw [nI_toInt (by omega)] at c2
          rw [show (1000 : Int32) = nI 1000 from rfl, pk_sub (by omega), nI_toInt (by omega)]
          omega
        rw [chk_in hin, chk_nI (by omega) (by decide), nI_cl (by omega), hW, nI_1, nI_1]
        refine ⟨_, rfl, ?_, ?_, fun q hq => uI_n _ _ _ hq⟩
        · rw [uI_s]
          exact SK.push hS
        · show s.length + 1 ≤ k + 1
          omega
      · rw [if_neg c3] at he
        cases he
    · rw [if_neg c2] at he ⊢
      obtain rfl := Option.some.inj he
      rw [chk_nI (by omega) (by decide), nI_cl (by omega), nI_1, nI_1]
      refine ⟨_, rfl, ?_, ?_, fun q hq => uI_n _ _ _ hq⟩
      · rw [uI_s]
        exact SK.push hS
      · show s.length + 1 ≤ k + 1
        omega
theorem reck_go {z g fr : Nat} {A W : Row} {p t : Int32} {cs : List Int32} (hs : Seg A g fr cs) : ∀ (ds : List Int32) (k f : Nat) (s s1 : List Int32) (I : Nat → Nat → Int32), I (z + 1) = A → I (z + 6) = W → k + ds.length = cs.length → (∀ i, i < ds.length → cs.getD (k + i) 0 = ds.getD i 0) → s.length ≤ k → SK (I (z + 5)) s → evR W ds s = some s1 → ds.length < f →
    ∃ I1, r_reckons_121 2000 z (nI g) p t f (nI s.length) (nI k) I = some (nI s1.length, nI cs.length, I1) ∧ SK (I1 (z + 5)) s1 ∧ ∀ q, q ≠ z + 5 → I1 q = I q := by
  intro ds
  induction ds with
  | nil =>
    intro k f s s1 I hA hW hk hd hl hS he hf
    obtain ⟨f, rfl⟩ : ∃ f', f = f' + 1 := ⟨f - 1, by omega⟩
    obtain rfl := Option.some.inj he
    have hk : k + 0 = cs.length := hk
    obtain rfl : k = cs.length := by omega
    obtain ⟨h1, h2, h3, h4, h5⟩ := hs
    refine ⟨I, ?_, hS, fun _ _ => rfl⟩
    rw [r_reckons_121, show (8 : Int32) + nI g = nI (8 + g) from nI_add 8 g, chk_nI (by omega) (by decide), nI_cl (by omega), hA, h4, if_pos (nI_le (Nat.le_refl _) (by omega))]
  | cons d ds ih =>
    intro k f s s1 I hA hW hk hd hl hS he hf
    obtain ⟨f, rfl⟩ : ∃ f', f = f' + 1 := ⟨f - 1, by omega⟩
    have hk : k + (ds.length + 1) = cs.length := hk
    have hf : ds.length + 1 < f + 1 := hf
    have hd0 : cs.getD k 0 = d := hd 0 (Nat.succ_pos _)
    have he : (stR W d s).bind (evR W ds) = some s1 := he
    obtain ⟨s2, he1, he2⟩ := Option.bind_eq_some_iff.mp he
    obtain ⟨I1, e1, hS1, hl1, hq1⟩ := reck_step (p := p) (t := t) (f := f) hs hA hW (by omega) hl hS (by rw [hd0]; exact he1)
    obtain ⟨I2, e2, hS2, hq2⟩ := ih (k + 1) f s2 s1 I1 (by rw [hq1 _ (by omega)]; exact hA) (by rw [hq1 _ (by omega)]; exact hW) (by omega) (fun i hi => by
      have := hd (i + 1) (by show i + 1 < ds.length + 1; omega)
      rw [show k + (i + 1) = k + 1 + i by omega] at this
      exact this) hl1 hS1 he2 (by omega)
    exact ⟨I2, e1.trans e2, hS2, fun q hq => (hq2 q hq).trans (hq1 q hq)⟩
/-- a law of the row tells what φ tells of the facts -/
def RLw (A : Row) (g : Nat) (φ : Row → Int32) : Prop := ∃ (fr : Nat) (cs : List Int32), Seg A g fr cs ∧ ∀ f, evR f cs [] = some [φ f]
theorem reck_is {I : Nat → Nat → Int32} {z g : Nat} {φ : Row → Int32} {p t : Int32} (h : RLw (I (z + 1)) g φ) : ∃ l4 l5 I1, r_reckons_121 2000 z (nI g) p t 2000 0 0 I = some (l4, l5, I1) ∧ I1 (z + 5) 0 = φ (I (z + 6)) ∧ ∀ q, q ≠ z + 5 → I1 q = I q := by
  obtain ⟨fr, cs, hs, he⟩ := h
  obtain ⟨I1, e1, hS, hq⟩ := reck_go (p := p) (t := t) hs cs 0 2000 [] [φ (I (z + 6))] I rfl rfl (by omega) (fun i _ => by rw [Nat.zero_add]) (Nat.le_refl _) trivial (he _) (by have := hs.2.1; omega)
  exact ⟨_, _, I1, e1, hS.1, hq⟩
