/-! music: the class's search -/
theorem mtry_none {f : Nat → Option (List Nat)} (hf : ∀ t, f t = none) : ∀ (j t : Nat), mtry f j t = none
  | 0, t => rfl
  | j + 1, t => by rw [mtry_n (hf t)]; exact mtry_none hf j (t + 1)
def Mono (LT LP : Row → Int32) (n : Nat) (pr : Nat → Row → Bool) : Prop := ∀ (e u : Nat) (A : Row) (t : Nat), e < 1000000 → Wf A n u → RP A LP → Evb A n e → pr u A = true → pr (mplay LT LP A n u t).1 (mplay LT LP A n u t).2 = true
section
variable {LT LP : Row → Int32} {n tn : Nat} {pr fi : Nat → Row → Bool}
theorem evb_play {A : Row} {u t e : Nat} (h : Wf A n u) (hP : RP A LP) (hE : Evb A n e) (he : e < 1000000) : RP (mplay LT LP A n u t).2 LP ∧ Evb (mplay LT LP A n u t).2 n (e + 1) :=
  ⟨hP.same (fun k hk => mplay_out2 h.1 (by omega)), Ev.play (LT := LT) (LP := LP) (t := t) h hP he hE.1 hE.2⟩
theorem mgo_pr (hm : Mono LT LP n pr) : ∀ (j e u : Nat) (A : Row), e + j < 1000000 → Wf A n u → RP A LP → Evb A n e → pr u A = true → mgo LT LP n tn (fun u A => !pr u A && fi u A) j u A = none := by
  intro j
  induction j with
  | zero =>
    intro e u A he hW hP hE h
    unfold mgo
    rw [if_neg (show ¬ (!pr u A && fi u A) = true by rw [h]; simp)]
  | succ j ih =>
    intro e u A he hW hP hE h
    unfold mgo
    refine mtry_none (fun t => ?_) _ _
    have ev := evb_play (LT := LT) (t := t) hW hP hE (by omega)
    exact ih (e + 1) _ _ (by omega) hW.play ev.1 ev.2 (hm e u A t (by omega) hW hP hE h)
theorem msum_none {f : Nat → Int32} (hf : ∀ t, f t = 0) : ∀ (j t : Nat), mwsum f j t = 0
  | 0, t => rfl
  | j + 1, t => by rw [mwsum, hf t, msum_none hf j (t + 1)]; rfl
theorem mcn_pr (hm : Mono LT LP n pr) : ∀ (j e u : Nat) (A : Row), e + j < 1000000 → Wf A n u → RP A LP → Evb A n e → pr u A = true → mcn LT LP n tn (fun u A => !pr u A && fi u A) j u A = 0 := by
  intro j
  induction j with
  | zero =>
    intro e u A he hW hP hE h
    unfold mcn
    rw [h]
    rfl
  | succ j ih =>
    intro e u A he hW hP hE h
    unfold mcn
    refine msum_none (fun t => ?_) _ _
    have ev := evb_play (LT := LT) (t := t) hW hP hE (by omega)
    exact ih (e + 1) _ _ (by omega) hW.play ev.1 ev.2 (hm e u A t (by omega) hW hP hE h)
end
/-- the class's state at a depth, and a row -/
def Cz (T : Nat → Option (Nat × Nat)) (I : Nat → Nat → Int32) (P : Nat → Nat → Option Nat) (x c d n u tn : Nat) (LT LP : Row → Int32) (A : Row) (e : Nat) : Prop := Wf A n u ∧ CC T I P c A LT LP ∧ RS I (x + (158 + 7 * d)) n A false ∧ (A 2 = nI tn ∧ tn ≤ 4) ∧ RP A LP ∧ Evb A n e
def Fc (I I1 : Nat → Nat → Int32) (x c d : Nat) : Prop := (∀ q, ¬ (x + 165 + 7 * d ≤ q ∧ q < x + 214) → q ≠ x + 217 → q ≠ c + 5 → q ≠ c + 6 → q ≠ c + 7 → I1 q = I q) ∧ ∀ k, k < d → I1 (x + 217) k = I (x + 217) k
theorem Fc.rf {I : Nat → Nat → Int32} {x c d : Nat} : Fc I I x c d := ⟨fun _ _ _ _ _ _ => rfl, fun _ _ => rfl⟩
theorem Fc.tr {I I1 I2 : Nat → Nat → Int32} {x c d : Nat} (h : Fc I I1 x c d) (h2 : Fc I1 I2 x c d) : Fc I I2 x c d := ⟨fun q a1 a2 a3 a4 a5 => (h2.1 q a1 a2 a3 a4 a5).trans (h.1 q a1 a2 a3 a4 a5), fun k hk => (h2.2 k hk).trans (h.2 k hk)⟩
theorem Fc.down {I I1 : Nat → Nat → Int32} {x c d d' : Nat} (h : Fc I I1 x c d') (hd : d ≤ d') : Fc I I1 x c d := ⟨fun q a1 a2 a3 a4 a5 => h.1 q (by omega) a2 a3 a4 a5, fun k hk => h.2 k (by omega)⟩
section
variable {T : Nat → Option (Nat × Nat)} {P : Nat → Nat → Option Nat} {x c n tn : Nat} {LT LP : Row → Int32} {pr fi : Nat → Row → Bool} {I0 : Nat → Nat → Int32}
/-- where the court and its laws lie, of all levels -/
def Apx (P : Nat → Nat → Option Nat) (x c : Nat) : Prop := (c = x + 4 ∨ x + 224 ≤ c) ∧ ∀ w, P c 8 = some w ∨ P c 9 = some w → x + 224 ≤ w ∧ (c + 8 ≤ w ∨ w + 2 ≤ c)
theorem Apx.at0 (h : Apx P x c) {a : Nat} (h1 : x + 12 ≤ a) (h2 : a + 7 ≤ x + 224) : Apt P c a := ⟨by have := h.1; omega, fun w hw => by have := h.2 w hw; omega⟩
theorem Cz.fc {I I1 : Nat → Nat → Int32} {d u e : Nat} {A : Row} (h : Cz T I P x c d n u tn LT LP A e) (hap : Apx P x c) (hF : Fc I I1 x c d) (hd : d ≤ 7) : Cz T I1 P x c d n u tn LT LP A e := by
  obtain ⟨h1, h2, h3, h4⟩ := h
  have hcx := hap.1
  refine ⟨h1, h2.same (fun q a b => hF.1 q (by omega) (by omega) (by omega) (by omega) (by omega)) (fun w hw => ?_), h3.same (fun q a b => hF.1 q (by omega) (by omega) (by omega) (by omega) (by omega)), h4⟩
  have := hap.2 w hw
  exact hF.1 _ (by omega) (by omega) (by omega) (by omega) (by omega)
theorem cz_play {I : Nat → Nat → Int32} {d u t e : Nat} {A : Row} (h : Cz T I P x c d n u tn LT LP A e) (hap : Apx P x c) (hd : d < 7) (he : e < 1000000) : ∃ I1 I2, s_copyFrom I (x + (158 + 7 * (d + 1))) (x + (158 + 7 * d)) = some I1 ∧ s_playMinute 2000 T I1 P (x + (158 + 7 * (d + 1))) c (nI t) 0 = some I2 ∧ Cz T I2 P x c (d + 1) n (mplay LT LP A n u t).1 tn LT LP (mplay LT LP A n u t).2 (e + 1) ∧ (∀ q, ¬ (x + 165 + 7 * d ≤ q ∧ q ≤ x + 171 + 7 * d) → q ≠ c + 5 → q ≠ c + 6 → q ≠ c + 7 → I2 q = I q) := by
  obtain ⟨h1, h2, h3, h4, h5, h6⟩ := h
  have hcx := hap.1
  have hn := h1.1
  obtain ⟨I1, c1, R1, q1⟩ := h3.copy (a := x + (158 + 7 * (d + 1))) hn h1.2.2.2.2 (by omega)
  have ap := hap.at0 (a := x + (158 + 7 * (d + 1))) (by omega) (by omega)
  have C1 : CC T I1 P c A LT LP := h2.same (fun q a b => q1 q (by omega)) (fun w hw => by have := hap.2 w hw; exact q1 _ (by omega))
  obtain ⟨I2, p1, R2, q2⟩ := s_play_is (w := false) (t := t) h1 R1 C1 ap (fun cc => cc)
  have p1 : s_playMinute 2000 T I1 P (x + (158 + 7 * (d + 1))) c (nI t) 0 = some I2 := p1
  have ev := evb_play (LT := LT) (t := t) h1 h5 h6 he
  refine ⟨I1, I2, c1, p1, ⟨h1.play, ?_, R2, ⟨by rw [mplay_out2 hn (by omega)]; exact h4.1, h4.2⟩, ev.1, ev.2⟩, fun q a1 a2 a3 a4 => by rw [q2 q (by omega) a2 a3 a4, q1 q (by omega)]⟩
  refine (C1.row (fun k hk => mplay_out2 hn (by omega))).same (fun q a b => q2 q (by omega) (by omega) (by omega) (by omega)) (fun w hw => ?_)
  have := hap.2 w hw
  exact q2 _ (by omega) (by omega) (by omega) (by omega)
/-- the questions ahead of and at the end of a row of tunes, as the class asks them -/
def Test (I : Nat → Nat → Int32) (x a : Nat) (pr fi : Bool) : Prop := (I (x + 214) 5 = 1 ∧ s_isUp I a (I (x + 214) 6) = b2 (!pr) ∧ ((I a 1 = (1 <<< ((I (x + 214) 6) &&& 31))) ↔ fi = true)) ∨ (I (x + 214) 5 = 0 ∧ mu_isOutOfOrder 2000 I x a = some (b2 pr) ∧ mu_allSit 2000 I x a = some (b2 fi))
def AskC (I0 : Nat → Nat → Int32) (x n : Nat) (pr fi : Nat → Row → Bool) : Prop := ∀ I', (∀ k, k ≠ 3 → I' (x + 214) k = I0 (x + 214) k) → I' (x + 218) = I0 (x + 218) → ∀ a u A, RS I' a n A false → Wf A n u → Test I' x a (pr u A) (fi u A)
theorem reachB {rec : Int32 → Int32 → (Nat → Nat → Int32) → Option (Int32 × (Nat → Nat → Int32))} {I : Nat → Nat → Int32} {d L : Nat} {p f : Bool} (hd : d ≤ 7) (hL : L ≤ 7) (ht : Test I x (x + (158 + 7 * d)) p f) : mu_reachesB rec 2000 T I P x c (nI d) (nI L) = if p = true then some (0, I) else if L ≤ d then some (b2 f, I) else (mu_reachesB_86 rec 2000 T P x c (x + (158 + 7 * d)) (nI d) (nI L) 2000 0 I).bind (fun q31 => match q31 with | .inl r0 => some r0 | .inr q0 => let m33 := q0.1; let I34 := q0.2; some (0, I34)) := by
  unfold mu_reachesB
  rw [chk_nI (show d < 8 by omega) (by decide), nI_cl (show d < 2147483648 by omega)]
  rcases ht with ⟨h1, h2, h3⟩ | ⟨h1, h2, h3⟩
  · rw [if_neg (show ¬ I (x + 214) 5 = 0 by rw [h1]; decide), h2]
    cases p with
    | true => rw [if_pos (show b2 (!true) = 0 from rfl), if_pos rfl]
    | false =>
      rw [if_neg (show ¬ b2 (!false) = 0 by decide), if_neg (show ¬ false = true by decide)]
      by_cases c1 : L ≤ d
      · rw [if_pos (show nI L ≤ nI d from nI_le c1 (by omega)), if_pos c1, if_neg (show ¬ I (x + 214) 5 = 0 by rw [h1]; decide)]
        cases f with
        | true => rw [if_pos (h3.mpr rfl)]; rfl
        | false => rw [if_neg (fun cc => by cases h3.mp cc)]; rfl
      · rw [if_neg (show ¬ nI L ≤ nI d from nI_ge (by omega) (by omega)), if_neg c1, if_pos (show nI d < 7 from nI_lt (b := 7) (by omega) (by decide))]
        rfl
  · rw [if_pos h1, h2, Option.bind_some]
    try dsimp only
    cases p with
    | true => rw [if_neg (show ¬ b2 true = 0 by decide), if_pos rfl]
    | false =>
      rw [if_pos (show b2 false = 0 from rfl), if_neg (show ¬ false = true by decide)]
      by_cases c1 : L ≤ d
      · rw [if_pos (show nI L ≤ nI d from nI_le c1 (by omega)), if_pos c1, if_pos h1, h3, Option.bind_some]
        try dsimp only
        rw [isb_b2]
      · rw [if_neg (show ¬ nI L ≤ nI d from nI_ge (by omega) (by omega)), if_neg c1, if_pos (show nI d < 7 from nI_lt (b := 7) (by omega) (by decide))]
        rfl
def Fq (I0 I : Nat → Nat → Int32) (x : Nat) : Prop := (∀ k, k ≠ 3 → I (x + 214) k = I0 (x + 214) k) ∧ I (x + 218) = I0 (x + 218)
theorem Fq.fc {I I1 : Nat → Nat → Int32} {d : Nat} (h : Fq I0 I x) (hap : Apx P x c) (hF : Fc I I1 x c d) : Fq I0 I1 x := by
  have hcx := hap.1
  exact ⟨fun k hk => by rw [hF.1 _ (by omega) (by omega) (by omega) (by omega) (by omega)]; exact h.1 k hk, by rw [hF.1 _ (by omega) (by omega) (by omega) (by omega) (by omega)]; exact h.2⟩
theorem reach_lp (hap : Apx P x c) (j d kr : Nat) (hd : d + (j + 1) ≤ 7) (hrec : ∀ (e u : Nat) (A : Row) (I : Nat → Nat → Int32), e + j < 1000000 → Fq I0 I x → Cz T I P x c (d + 1) n u tn LT LP A e → ∃ I1, mu_reaches 2000 T P x c kr (nI (d + 1)) (nI (d + 1 + j)) I = some (b2 (mgo LT LP n tn (fun u A => !pr u A && fi u A) j u A).isSome, I1) ∧ Fc I I1 x c (d + 1) ∧ ∀ l, mgo LT LP n tn (fun u A => !pr u A && fi u A) j u A = some l → ∀ i, i < j → I1 (x + 217) (d + 1 + i) = nI (l.getD i 0)) {u e : Nat} {A : Row} :
    ∀ (jt t f : Nat) (I : Nat → Nat → Int32), t + jt = tn → jt < f → e + (j + 1) < 1000000 → Fq I0 I x → Cz T I P x c d n u tn LT LP A e →
    ∃ I1, ((mtry (fun t => mgo LT LP n tn (fun u A => !pr u A && fi u A) j (mplay LT LP A n u t).1 (mplay LT LP A n u t).2) jt t = none ∧ mu_reachesB_86 (mu_reaches 2000 T P x c kr) 2000 T P x c (x + (158 + 7 * d)) (nI d) (nI (d + 1 + j)) f (nI t) I = some (.inr (nI tn, I1))) ∨ (∃ l, mtry (fun t => mgo LT LP n tn (fun u A => !pr u A && fi u A) j (mplay LT LP A n u t).1 (mplay LT LP A n u t).2) jt t = some l ∧ mu_reachesB_86 (mu_reaches 2000 T P x c kr) 2000 T P x c (x + (158 + 7 * d)) (nI d) (nI (d + 1 + j)) f (nI t) I = some (.inl (1, I1)) ∧ ∀ i, i < j + 1 → I1 (x + 217) (d + i) = nI (l.getD i 0))) ∧ Fc I I1 x c d := by
  have hcx := hap.1
  intro jt
  induction jt with
  | zero =>
    intro t f I ht hf he hF hC
    obtain ⟨f, rfl⟩ : ∃ f', f = f' + 1 := ⟨f - 1, by omega⟩
    obtain rfl : t = tn := by omega
    refine ⟨I, Or.inl ⟨rfl, ?_⟩, Fc.rf⟩
    rw [mu_reachesB_86, hC.2.1.1.2.1, hC.2.2.2.1.1, if_pos (nI_le (Nat.le_refl _) (by have := hC.2.2.2.1.2; omega))]
  | succ jt ih =>
    intro t f I ht hf he hF hC
    obtain ⟨f, rfl⟩ : ∃ f', f = f' + 1 := ⟨f - 1, by omega⟩
    have h4 := hC.2.2.2.1.2
    rw [mu_reachesB_86, hC.2.1.1.2.1, hC.2.2.2.1.1, if_neg (nI_ge (by omega) (by omega)), chk_nI (show d < 7 by omega) (by decide), nI_cl (show d < 2147483648 by omega), nI_1, chk_nI (show d + 1 < 8 by omega) (by decide), nI_cl (show d + 1 < 2147483648 by omega)]
    try dsimp only
    generalize hI7 : uI I (x + 217) d (nI t) = I7
    have o7 : ∀ q, q ≠ x + 217 → I7 q = I q := fun q hq => by rw [← hI7, uI_row _ _ _ _ _ hq]
    have F7 : Fc I I7 x c d := ⟨fun q a1 a2 a3 a4 a5 => o7 q a2, fun k hk => by rw [← hI7, uI_k _ _ _ _ _ (by omega)]⟩
    obtain ⟨I8, I9, p1, p2, p3, p4⟩ := cz_play (t := t) (hC.fc hap F7 (by omega)) hap (by omega) (by omega)
    have F9 : Fc I7 I9 x c d := ⟨fun q a1 a2 a3 a4 a5 => p4 q (by omega) a3 a4 a5, fun k hk => by rw [p4 _ (by omega) (by omega) (by omega) (by omega)]⟩
    rw [p1, Option.bind_some]
    try dsimp only
    rw [p2, Option.bind_some]
    try dsimp only
    obtain ⟨I10, r1, r2, r3⟩ := hrec (e + 1) _ _ I9 (by omega) ((hF.fc hap F7).fc hap F9) p3
    have FF : Fc I I10 x c d := (F7.tr F9).tr (r2.down (by omega))
    have v11 : I10 (x + 217) d = nI t := by rw [r2.2 d (by omega), p4 _ (by omega) (by omega) (by omega) (by omega), ← hI7, uI_e]
    rw [r1, Option.bind_some]
    try dsimp only
    cases hg : mgo LT LP n tn (fun u A => !pr u A && fi u A) j (mplay LT LP A n u t).1 (mplay LT LP A n u t).2 with
    | some l =>
      rw [show b2 (some l).isSome = 1 from rfl, if_neg (show ¬ (1 : Int32) = 0 by decide)]
      refine ⟨I10, Or.inr ⟨t :: l, mtry_s hg, rfl, fun i hi => ?_⟩, FF⟩
      cases i with
      | zero => exact v11
      | succ i =>
        rw [show d + (i + 1) = d + 1 + i by omega, r3 l hg i (by omega)]
        rfl
    | none =>
      rw [show b2 (none : Option (List Nat)).isSome = 0 from rfl, if_pos rfl]
      have m1 := mtry_n (f := fun t => mgo LT LP n tn (fun u A => !pr u A && fi u A) j (mplay LT LP A n u t).1 (mplay LT LP A n u t).2) (j := jt) (t := t) hg
      obtain ⟨I11, i1, i2⟩ := ih (t + 1) f I10 (by omega) (by omega) he (hF.fc hap FF) (hC.fc hap FF (by omega))
      refine ⟨I11, ?_, FF.tr i2⟩
      rw [m1, nI_1]
      exact i1
theorem reach_is (hap : Apx P x c) (hm : Mono LT LP n pr) (hq : AskC I0 x n pr fi) : ∀ (j d kr e u : Nat) (A : Row) (I : Nat → Nat → Int32), d + j ≤ 7 → j < kr → e + j < 1000000 → Fq I0 I x → Cz T I P x c d n u tn LT LP A e →
    ∃ I1, mu_reaches 2000 T P x c kr (nI d) (nI (d + j)) I = some (b2 (mgo LT LP n tn (fun u A => !pr u A && fi u A) j u A).isSome, I1) ∧ Fc I I1 x c d ∧ ∀ l, mgo LT LP n tn (fun u A => !pr u A && fi u A) j u A = some l → ∀ i, i < j → I1 (x + 217) (d + i) = nI (l.getD i 0) := by
  intro j
  induction j with
  | zero =>
    intro d kr e u A I hd hk he hF hC
    obtain ⟨kr, rfl⟩ : ∃ f', kr = f' + 1 := ⟨kr - 1, by omega⟩
    rw [mu_reaches, reachB (by omega) (by omega) (hq I hF.1 hF.2 _ u A hC.2.2.1 hC.1), if_pos (show d + 0 ≤ d by omega)]
    unfold mgo
    try dsimp only
    cases pr u A with
    | true =>
      rw [if_pos rfl, if_neg (show ¬ (!true && fi u A) = true by simp)]
      exact ⟨I, rfl, Fc.rf, fun l hl i hi => by omega⟩
    | false =>
      rw [if_neg (show ¬ false = true by decide)]
      cases fi u A with
      | true => exact ⟨I, rfl, Fc.rf, fun l hl i hi => by omega⟩
      | false => exact ⟨I, rfl, Fc.rf, fun l hl i hi => by omega⟩
  | succ j ih =>
    intro d kr e u A I hd hk he hF hC
    obtain ⟨kr, rfl⟩ : ∃ f', kr = f' + 1 := ⟨kr - 1, by omega⟩
    have h4 := hC.2.2.2.1.2
    rw [mu_reaches, reachB (by omega) (by omega) (hq I hF.1 hF.2 _ u A hC.2.2.1 hC.1), if_neg (show ¬ d + (j + 1) ≤ d by omega)]
    cases hp : pr u A with
    | true =>
      rw [if_pos rfl, mgo_pr hm (j + 1) e u A he hC.1 hC.2.2.2.2.1 hC.2.2.2.2.2 hp]
      exact ⟨I, rfl, Fc.rf, fun l hl => by cases hl⟩
    | false =>
      rw [if_neg (show ¬ false = true by decide)]
      obtain ⟨I2, g1, g2⟩ := reach_lp (I0 := I0) (pr := pr) (fi := fi) hap j d kr hd (fun e u A I h1 h2 h3 => ih (d + 1) kr e u A I (by omega) (by omega) h1 h2 h3) tn 0 2000 I (by omega) (by omega) he hF hC
      rw [show d + (j + 1) = d + 1 + j by omega]
      have em : mgo LT LP n tn (fun u A => !pr u A && fi u A) (j + 1) u A = mtry (fun t => mgo LT LP n tn (fun u A => !pr u A && fi u A) j (mplay LT LP A n u t).1 (mplay LT LP A n u t).2) tn 0 := rfl
      rw [em]
      rcases g1 with ⟨m1, m2⟩ | ⟨l, m1, m2, m3⟩
      · have m2 : mu_reachesB_86 (mu_reaches 2000 T P x c kr) 2000 T P x c (x + (158 + 7 * d)) (nI d) (nI (d + 1 + j)) 2000 0 I = _ := m2
        rw [m1, m2]
        exact ⟨I2, rfl, g2, fun l hl => by cases hl⟩
      · have m2 : mu_reachesB_86 (mu_reaches 2000 T P x c kr) 2000 T P x c (x + (158 + 7 * d)) (nI d) (nI (d + 1 + j)) 2000 0 I = _ := m2
        rw [m1, m2]
        refine ⟨I2, rfl, g2, fun l' hl => ?_⟩
        injection hl with hl
        subst hl
        exact m3
end
