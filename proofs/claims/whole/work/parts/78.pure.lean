/-! music: ways, the shortest, on the class's side -/
section
variable {T : Nat → Option (Nat × Nat)} {P : Nat → Nat → Option Nat} {x c n tn : Nat} {LT LP : Row → Int32} {pr fi : Nat → Row → Bool} {I0 : Nat → Nat → Int32}
theorem waysB {rec : Int32 → Int32 → Int32 → (Nat → Nat → Int32) → Option (Int32 × (Nat → Nat → Int32))} {I : Nat → Nat → Int32} {d L p u : Nat} {A : Row} (hd : d ≤ 7) (hL : L ≤ 7) (hp : p < n) (hW : Wf A n u) (hR : RS I (x + (158 + 7 * d)) n A false) : mu_waysB rec 2000 T I P x c (nI d) (nI p) (nI L) = if (!ub u p) = true then some (0, I) else if L ≤ d then some (b2 (decide (u = 2 ^ p)), I) else (mu_waysB_53 rec 2000 T P x c (x + (158 + 7 * d)) (nI d) (nI p) (nI L) 2000 0 0 I).bind (fun q20 => let m22 := q20.1; let m23 := q20.2.1; let I24 := q20.2.2; some (m22, I24)) := by
  have hn := hW.1
  have hu := hW.u64
  have h1 : I (x + (158 + 7 * d)) 1 = nI u := hR.2.1.trans hW.2.2.1
  have h2p : 2 ^ p < 64 := Nat.pow_lt_pow_right (by decide) (show p < 6 by omega)
  have eqv : (I (x + (158 + 7 * d)) 1 = (1 <<< (nI p &&& 31))) ↔ u = 2 ^ p := by
    rw [h1, bit_tab p (by omega)]
    exact nI_eq (by omega) (by omega)
  unfold mu_waysB
  rw [chk_nI (show d < 8 by omega) (by decide), nI_cl (show d < 2147483648 by omega), s_isUp_is h1 hu (by omega)]
  cases ub u p with
  | false => rw [if_pos (show b2 false = 0 from rfl), if_pos (show (!false) = true from rfl)]
  | true =>
    rw [if_neg (show ¬ b2 true = 0 by decide), if_neg (show ¬ (!true) = true by decide)]
    by_cases c1 : L ≤ d
    · rw [if_pos (show nI L ≤ nI d from nI_le c1 (by omega)), if_pos c1]
      by_cases c2 : u = 2 ^ p
      · rw [if_pos (eqv.mpr c2), decide_eq_true c2]; rfl
      · rw [if_neg (fun cc => c2 (eqv.mp cc)), decide_eq_false c2]; rfl
    · rw [if_neg (show ¬ nI L ≤ nI d from nI_ge (by omega) (by omega)), if_neg c1, if_pos (show nI d < 7 from nI_lt (b := 7) (by omega) (by decide))]
def prA (p : Nat) : Nat → Row → Bool := fun u _ => !ub u p
def fiA (p : Nat) : Nat → Row → Bool := fun u _ => decide (u = 2 ^ p)
theorem mono_A {p : Nat} (hp : p < n) (hn : n ≤ 6) : Mono LT LP n (prA p) := fun e u A t he hW hP hE h => by
  unfold prA at *
  cases hh : ub (mplay LT LP A n u t).1 p with
  | false => rfl
  | true =>
    rw [mplay_up hn hW.u64 (by omega) hh] at h
    cases h
theorem ways_lp (hap : Apx P x c) {p : Nat} (hp : p < n) (j d kr : Nat) (hd : d + (j + 1) ≤ 7) (hrec : ∀ (e u : Nat) (A : Row) (I : Nat → Nat → Int32), e + j < 1000000 → Cz T I P x c (d + 1) n u tn LT LP A e → ∃ I1, mu_ways 2000 T P x c kr (nI (d + 1)) (nI p) (nI (d + 1 + j)) I = some (mcn LT LP n tn (fun u A => !prA p u A && fiA p u A) j u A, I1) ∧ Fc I I1 x c (d + 1) ∧ I1 (x + 217) = I (x + 217)) {u e : Nat} {A : Row} :
    ∀ (jt t f : Nat) (l : Int32) (I : Nat → Nat → Int32), t + jt = tn → jt < f → e + (j + 1) < 1000000 → Cz T I P x c d n u tn LT LP A e →
    ∃ I1, mu_waysB_53 (mu_ways 2000 T P x c kr) 2000 T P x c (x + (158 + 7 * d)) (nI d) (nI p) (nI (d + 1 + j)) f l (nI t) I = some (l + mwsum (fun t => mcn LT LP n tn (fun u A => !prA p u A && fiA p u A) j (mplay LT LP A n u t).1 (mplay LT LP A n u t).2) jt t, nI tn, I1) ∧ Fc I I1 x c d ∧ I1 (x + 217) = I (x + 217) := by
  have hcx := hap.1
  intro jt
  induction jt with
  | zero =>
    intro t f l I ht hf he hC
    obtain ⟨f, rfl⟩ : ∃ f', f = f' + 1 := ⟨f - 1, by omega⟩
    obtain rfl : t = tn := by omega
    refine ⟨I, ?_, Fc.rf, rfl⟩
    rw [mu_waysB_53, hC.2.1.1.2.1, hC.2.2.2.1.1, if_pos (nI_le (Nat.le_refl _) (by have := hC.2.2.2.1.2; omega)), mwsum, Int32.add_zero]
  | succ jt ih =>
    intro t f l I ht hf he hC
    obtain ⟨f, rfl⟩ : ∃ f', f = f' + 1 := ⟨f - 1, by omega⟩
    have h4 := hC.2.2.2.1.2
    rw [mu_waysB_53, hC.2.1.1.2.1, hC.2.2.2.1.1, if_neg (nI_ge (by omega) (by omega)), nI_1, chk_nI (show d + 1 < 8 by omega) (by decide), nI_cl (show d + 1 < 2147483648 by omega)]
    try dsimp only
    obtain ⟨I8, I9, p1, p2, p3, p4⟩ := cz_play (t := t) hC hap (by omega) (by omega)
    have F9 : Fc I I9 x c d := ⟨fun q a1 a2 a3 a4 a5 => p4 q (by omega) a3 a4 a5, fun k hk => by rw [p4 _ (by omega) (by omega) (by omega) (by omega)]⟩
    rw [p1, Option.bind_some]
    try dsimp only
    rw [p2, Option.bind_some]
    try dsimp only
    obtain ⟨I10, r1, r2, r5⟩ := hrec (e + 1) _ _ I9 (by omega) p3
    have w17 : I10 (x + 217) = I (x + 217) := by rw [r5, p4 _ (by omega) (by omega) (by omega) (by omega)]
    have FF : Fc I I10 x c d := F9.tr (r2.down (by omega))
    rw [r1, Option.bind_some]
    try dsimp only
    obtain ⟨I11, i1, i2, i3⟩ := ih (t + 1) f (l + mcn LT LP n tn (fun u A => !prA p u A && fiA p u A) j (mplay LT LP A n u t).1 (mplay LT LP A n u t).2) I10 (by omega) (by omega) he (hC.fc hap FF (by omega))
    refine ⟨I11, ?_, FF.tr i2, i3.trans w17⟩
    rw [nI_1, i1, mwsum, Int32.add_assoc]
theorem ways_is (hap : Apx P x c) {p : Nat} (hp : p < n) (hn : n ≤ 6) : ∀ (j d kr e u : Nat) (A : Row) (I : Nat → Nat → Int32), d + j ≤ 7 → j < kr → e + j < 1000000 → Cz T I P x c d n u tn LT LP A e →
    ∃ I1, mu_ways 2000 T P x c kr (nI d) (nI p) (nI (d + j)) I = some (mcn LT LP n tn (fun u A => !prA p u A && fiA p u A) j u A, I1) ∧ Fc I I1 x c d ∧ I1 (x + 217) = I (x + 217) := by
  intro j
  induction j with
  | zero =>
    intro d kr e u A I hd hk he hC
    obtain ⟨kr, rfl⟩ : ∃ f', kr = f' + 1 := ⟨kr - 1, by omega⟩
    rw [mu_ways, waysB (by omega) (by omega) hp hC.1 hC.2.2.1, if_pos (show d + 0 ≤ d by omega)]
    unfold mcn prA fiA
    try dsimp only
    cases ub u p with
    | false => exact ⟨I, rfl, Fc.rf, rfl⟩
    | true => exact ⟨I, rfl, Fc.rf, rfl⟩
  | succ j ih =>
    intro d kr e u A I hd hk he hC
    obtain ⟨kr, rfl⟩ : ∃ f', kr = f' + 1 := ⟨kr - 1, by omega⟩
    have h4 := hC.2.2.2.1.2
    rw [mu_ways, waysB (by omega) (by omega) hp hC.1 hC.2.2.1, if_neg (show ¬ d + (j + 1) ≤ d by omega)]
    cases hb : ub u p with
    | false =>
      rw [if_pos (show (!false) = true from rfl), mcn_pr (mono_A hp hn) (j + 1) e u A he hC.1 hC.2.2.2.2.1 hC.2.2.2.2.2 (show prA p u A = true by unfold prA; rw [hb]; rfl)]
      exact ⟨I, rfl, Fc.rf, rfl⟩
    | true =>
      rw [if_neg (show ¬ (!true) = true by decide)]
      obtain ⟨I2, g1, g2, g5⟩ := ways_lp hap hp j d kr hd (fun e u A I h1 h3 => ih (d + 1) kr e u A I (by omega) (by omega) h1 h3) tn 0 2000 0 I (by omega) (by omega) he hC
      rw [show d + (j + 1) = d + 1 + j by omega]
      have g1 : mu_waysB_53 (mu_ways 2000 T P x c kr) 2000 T P x c (x + (158 + 7 * d)) (nI d) (nI p) (nI (d + 1 + j)) 2000 0 0 I = _ := g1
      rw [g1, Option.bind_some]
      refine ⟨I2, ?_, g2, g5⟩
      try dsimp only
      rw [Int32.zero_add]
      rfl
/-- what the search for the shortest leaves -/
def Ff (I I1 : Nat → Nat → Int32) (x c : Nat) : Prop := (∀ q, ¬ (x + 158 ≤ q ∧ q ≤ x + 214) → q ≠ x + 217 → q ≠ c + 5 → q ≠ c + 6 → q ≠ c + 7 → I1 q = I q) ∧ ∀ k, k ≠ 3 → I1 (x + 214) k = I (x + 214) k
theorem Ff.tr {I I1 I2 : Nat → Nat → Int32} (h : Ff I I1 x c) (h2 : Ff I1 I2 x c) : Ff I I2 x c := ⟨fun q a1 a2 a3 a4 a5 => (h2.1 q a1 a2 a3 a4 a5).trans (h.1 q a1 a2 a3 a4 a5), fun k hk => (h2.2 k hk).trans (h.2 k hk)⟩
theorem Fc.ff {I I1 : Nat → Nat → Int32} {d : Nat} (hap : Apx P x c) (h : Fc I I1 x c d) : Ff I I1 x c := by
  have hcx := hap.1
  exact ⟨fun q a1 a2 a3 a4 a5 => h.1 q (by omega) a2 a3 a4 a5, fun k hk => by rw [h.1 _ (by omega) (by omega) (by omega) (by omega) (by omega)]⟩
theorem short_go (hap : Apx P x c) (hm : Mono LT LP n pr) (hq : AskC I0 x n pr fi) {a u e : Nat} {A : Row} (he : e < 900000) : ∀ (j k f : Nat) (I : Nat → Nat → Int32), k + j = 8 → j + 1 < f → Fq I0 I x → Cz T I P x c 0 n u tn LT LP A e → I (x + 214) 3 = -1 →
    ∃ I1 m, mu_findShortest_22 2000 T P x c a f (nI k) I = some (m, I1) ∧ Ff I I1 x c ∧ ((mshort LT LP n tn (fun u A => !pr u A && fi u A) u A j k = none ∧ I1 (x + 214) 3 = -1) ∨ ∃ l, mshort LT LP n tn (fun u A => !pr u A && fi u A) u A j k = some l ∧ I1 (x + 214) 3 = nI l.length ∧ ∀ i, i < l.length → I1 (x + 217) i = nI (l.getD i 0)) := by
  have hcx := hap.1
  intro j
  induction j with
  | zero =>
    intro k f I hk hf hF hC h3
    obtain ⟨f, rfl⟩ : ∃ f', f = f' + 1 := ⟨f - 1, by omega⟩
    obtain rfl : k = 8 := by omega
    refine ⟨I, nI 8, ?_, (Fc.rf (d := 0)).ff hap, Or.inl ⟨rfl, h3⟩⟩
    rw [mu_findShortest_22, if_pos (show (7 : Int32) < nI 8 by decide)]
  | succ j ih =>
    intro k f I hk hf hF hC h3
    obtain ⟨f, rfl⟩ : ∃ f', f = f' + 1 := ⟨f - 1, by omega⟩
    rw [mu_findShortest_22, if_neg (show ¬ (7 : Int32) < nI k from nI_nlt (a := 7) (by omega) (by omega)), if_pos h3]
    unfold mu_reachesB_f
    obtain ⟨I1, r1, r2, r3⟩ := reach_is hap hm hq k 0 10 e u A I (by omega) (by omega) (by omega) hF hC
    rw [Nat.zero_add] at r1
    have r1 : mu_reaches 2000 T P x c 10 0 (nI k) I = _ := r1
    rw [r1, Option.bind_some]
    try dsimp only
    have h3' : I1 (x + 214) 3 = -1 := by rw [r2.1 _ (by omega) (by omega) (by omega) (by omega) (by omega)]; exact h3
    cases hg : mgo LT LP n tn (fun u A => !pr u A && fi u A) k u A with
    | some l =>
      rw [show b2 (some l).isSome = 1 from rfl, if_neg (show ¬ (1 : Int32) = 0 by decide)]
      have el := mgo_len k u A l hg
      obtain ⟨f, rfl⟩ : ∃ f', f = f' + 1 := ⟨f - 1, by omega⟩
      have en : mu_findShortest_22 2000 T P x c a (f + 1) (nI k + 1) (uI I1 (x + 214) 3 (nI k)) = some (nI k + 1, uI I1 (x + 214) 3 (nI k)) := by
        rw [mu_findShortest_22]
        by_cases c1 : (7 : Int32) < nI k + 1
        · rw [if_pos c1]
        · rw [if_neg c1, if_neg (show ¬ uI I1 (x + 214) 3 (nI k) (x + 214) 3 = -1 by
            rw [uI_e]
            intro cc
            have := i32_eq.mp cc
            rw [nI_toInt (by omega)] at this
            have k1 : (-1 : Int32).toInt = -1 := rfl
            omega)]
      rw [en]
      refine ⟨_, _, rfl, (r2.ff hap).tr ⟨fun q a1 a2 a3 a4 a5 => uI_row _ _ _ _ _ (by omega), fun i hi => uI_k _ _ _ _ _ hi⟩, Or.inr ⟨l, ?_, ?_, fun i hi => ?_⟩⟩
      · rw [mshort, hg]
      · rw [uI_e, el]
      · have := r3 l hg i (by omega)
        rw [Nat.zero_add] at this
        rw [uI_row _ _ _ _ _ (by omega)]
        exact this
    | none =>
      rw [show b2 (none : Option (List Nat)).isSome = 0 from rfl, if_pos rfl, nI_1]
      obtain ⟨I2, m, i1, i2, i3⟩ := ih (k + 1) f I1 (by omega) (by omega) (hF.fc hap r2) (hC.fc hap r2 (by omega)) h3'
      refine ⟨I2, m, i1, (r2.ff hap).tr i2, ?_⟩
      rw [mshort, hg]
      exact i3
end
