/-! the reference's minute -/
def Ag (φ : Row → Int32) : Prop := ∀ f f' : Row, (∀ k, k < 7 → f k = f' k) → φ f = φ f'
theorem small_of {c : Int32} {a b : Nat} (h1 : nI a ≤ c) (h2 : c < nI b) (ha : a < 2147483648) (hb : b < 2147483648) : ∃ j : Nat, a ≤ j ∧ j < b ∧ c = nI j := by
  rw [i32_le, nI_toInt ha] at h1
  rw [i32_lt, nI_toInt hb] at h2
  obtain ⟨j, hj, rfl⟩ := nI_of (x := c) (fun q => by rw [i32_lt] at q; have : (0 : Int32).toInt = 0 := rfl; omega)
  rw [nI_toInt hj] at h1 h2
  exact ⟨j, by omega, by omega, rfl⟩
theorem stR_ag {f f' : Row} (h : ∀ k, k < 7 → f k = f' k) (c : Int32) (s : List Int32) : stR f c s = stR f' c s := by
  unfold stR
  by_cases c1 : 3000 ≤ c
  · rw [if_pos c1, if_pos c1]
  · rw [if_neg c1, if_neg c1]
    by_cases c2 : 1000 ≤ c
    · rw [if_pos c2, if_pos c2]
      by_cases c3 : c < 1007
      · rw [if_pos c3, if_pos c3]
        obtain ⟨j, h1, h2, rfl⟩ := small_of (a := 1000) (b := 1007) c2 c3 (by decide) (by decide)
        rw [show (1000 : Int32) = nI 1000 from rfl, pk_sub h1, nI_cl (by omega), h _ (by omega)]
      · rw [if_neg c3, if_neg c3]
    · rw [if_neg c2, if_neg c2]
theorem evR_ag {f f' : Row} (h : ∀ k, k < 7 → f k = f' k) : ∀ (cs s : List Int32), evR f cs s = evR f' cs s
  | [], _ => rfl
  | c :: cs, s => by
    unfold evR
    rw [stR_ag h c s]
    congr 1
    funext s
    exact evR_ag h cs s
theorem RLw.ag {A : Row} {g : Nat} {φ : Row → Int32} (h : RLw A g φ) : Ag φ := fun f f' hf => by
  obtain ⟨fr, cs, -, he⟩ := h
  have h1 := he f
  rw [evR_ag hf, he f'] at h1
  have := Option.some.inj h1
  simpa using this.symm
theorem r_reckons_is {I : Nat → Nat → Int32} {z n u p g : Nat} {t : Int32} {φ : Row → Int32} (tn : Nat) (ht : t = nI tn) (h : Wf (I (z + 1)) n u) (hp : p < n) (hg : g ≤ 1) (h0 : I (z + 1) (4 + g) ≠ 0) (hL : RLw (I (z + 1)) g φ) :
    ∃ I1, r_reckons 2000 I z (nI g) (nI p) t = some (φ (fac (I (z + 1)) n u p tn), I1) ∧ ∀ q, q ≠ z + 5 → q ≠ z + 6 → I1 q = I q := by
  have hn := h.1
  have h1 : ∀ (q : Nat) (k : Nat) (v : Int32) (J : Nat → Nat → Int32), uI J (z + 6) k v (z + 1) = J (z + 1) := fun _ k v J => uI_n J k v (by omega)
  unfold r_reckons
  simp (disch := omega) only [lit_nI, nI_add, chk_nI, nI_cl]
  rw [if_neg (by rw [show (nI 0 : Int32) = 0 from rfl]; exact h0)]
  have hW : Wf (uI (uI (uI (uI I (z + 6) 0 (nI p)) (z + 6) 1 (uI I (z + 6) 0 (nI p) (z + 1) (16 + p))) (z + 6) 2 (uI (uI I (z + 6) 0 (nI p)) (z + 6) 1 (uI I (z + 6) 0 (nI p) (z + 1) (16 + p)) (z + 1) (41 + p))) (z + 6) 3 t (z + 1)) n u := by
    simp only [h1 0]
    exact h
  rw [r_besideOf_is hW hp, Option.bind_some]
  simp only [h1 0]
  rw [h.2.2.1, bitsOf_tab u h.u64, Option.bind_some]
  have fin : ∀ J : Nat → Nat → Int32, J (z + 1) = I (z + 1) → (∀ q, q ≠ z + 6 → J q = I q) → (∀ k, k < 7 → J (z + 6) k = fac (I (z + 1)) n u p tn k) → ∃ I1, ((r_reckons_121 2000 z (nI g) (nI p) t 2000 (nI 0) (nI 0) J).bind (fun q58 => let m60 := q58.1; let m61 := q58.2.1; let I62 := q58.2.2; some ((I62 (z + 5) 0), I62))) = some (φ (fac (I (z + 1)) n u p tn), I1) ∧ ∀ q, q ≠ z + 5 → q ≠ z + 6 → I1 q = I q := by
    intro J hJ1 hJ2 hJ3
    obtain ⟨l4, l5, I1, e1, e2, e3⟩ := reck_is (I := J) (z := z) (g := g) (φ := φ) (p := nI p) (t := t) (by rw [hJ1]; exact hL)
    have e1 : r_reckons_121 2000 z (nI g) (nI p) t 2000 (nI 0) (nI 0) J = some (l4, l5, I1) := e1
    refine ⟨I1, ?_, fun q h5 h6 => (e3 q h5).trans (hJ2 q h6)⟩
    rw [e1, Option.bind_some]
    dsimp only
    rw [e2, hL.ag _ _ hJ3]
  have hm : imin (I (z + 1) 33) 99 = if I (z + 1) 33 ≤ nI 99 then I (z + 1) 33 else nI 99 := by
    unfold imin
    by_cases hc : I (z + 1) 33 ≤ nI 99
    · rw [if_pos hc, if_neg (show ¬ (99 : Int32) < I (z + 1) 33 from Int32.not_lt.mpr hc)]
    · rw [if_neg hc, if_pos (show (99 : Int32) < I (z + 1) 33 from Int32.not_le.mp hc)]
      rfl
  by_cases hc : I (z + 1) 33 ≤ nI 99
  · rw [if_pos hc] at hm ⊢
    refine fin _ (by simp only [h1 0]) (fun q hq => by simp only [uI_row _ _ _ _ _ hq]) (fun k hk => ?_)
    unfold fac
    simp only [uI_get, true_and, hm]
    match k, hk with
    | 0, _ => rfl
    | 1, _ => simp
    | 2, _ => simp
    | 3, _ => simp [ht]
    | 4, _ => simp
    | 5, _ => simp
    | 6, _ => simp
  · rw [if_neg hc] at hm ⊢
    refine fin _ (by simp only [h1 0]) (fun q hq => by simp only [uI_row _ _ _ _ _ hq]) (fun k hk => ?_)
    unfold fac
    simp only [uI_get, true_and, hm]
    match k, hk with
    | 0, _ => rfl
    | 1, _ => simp
    | 2, _ => simp
    | 3, _ => simp [ht]
    | 4, _ => simp
    | 5, _ => simp
    | 6, _ => simp
def clT (v : Int32) : Int32 := if v < 0 then 0 else if 99 < v then 99 else v
def clP (v : Int32) : Int32 := if v < -99 then -99 else if 99 < v then 99 else v
/-- what a minute costs, what it pains, by the row's laws -/
def RT (A : Row) (L : Row → Int32) : Prop := (A 4 = 0 ∧ L = fun _ => 1) ∨ (A 4 ≠ 0 ∧ ∃ φ, RLw A 0 φ ∧ L = fun f => clT (φ f))
def RP (A : Row) (L : Row → Int32) : Prop := (A 5 = 0 ∧ L = fun _ => 1) ∨ (A 5 ≠ 0 ∧ ∃ φ, RLw A 1 φ ∧ L = fun f => clP (φ f))
theorem r_tiresOf_is {I : Nat → Nat → Int32} {z n u p : Nat} {L : Row → Int32} (tn : Nat) (h : Wf (I (z + 1)) n u) (hp : p < n) (hL : RT (I (z + 1)) L) :
    ∃ I1, r_tiresOf 2000 I z (nI p) (nI tn) = some (L (fac (I (z + 1)) n u p tn), I1) ∧ ∀ q, q ≠ z + 5 → q ≠ z + 6 → I1 q = I q := by
  unfold r_tiresOf
  rcases hL with ⟨h0, rfl⟩ | ⟨h0, φ, hφ, rfl⟩
  · refine ⟨I, ?_, fun _ _ _ => rfl⟩
    have e : r_reckons 2000 I z 0 (nI p) (nI tn) = some (1, I) := by
      unfold r_reckons
      rw [chk_in (show vp_in (4 + 0) 3891 from vp_lit (by decide)), if_pos (show I (z + 1) (Int32.toNatClampNeg (4 + 0)) = 0 from h0)]
    rw [e, Option.bind_some]
    rfl
  · obtain ⟨I1, e1, hq⟩ := r_reckons_is (g := 0) tn rfl h hp (by decide) h0 hφ
    refine ⟨I1, ?_, hq⟩
    have e1 : r_reckons 2000 I z 0 (nI p) (nI tn) = _ := e1
    rw [e1, Option.bind_some]
    dsimp only
    generalize φ (fac (I (z + 1)) n u p tn) = v
    unfold clT
    by_cases c1 : 0 ≤ v
    · rw [if_pos c1, if_neg (Int32.not_lt.mpr c1)]
      by_cases c2 : v ≤ 99
      · rw [if_pos c2, if_neg (Int32.not_lt.mpr c2)]
      · rw [if_neg c2, if_pos (Int32.not_le.mp c2)]
    · rw [if_neg c1, if_pos (Int32.not_le.mp c1)]
theorem r_painsOf_is {I : Nat → Nat → Int32} {z n u p : Nat} {L : Row → Int32} (tn : Nat) (h : Wf (I (z + 1)) n u) (hp : p < n) (hL : RP (I (z + 1)) L) :
    ∃ I1, r_painsOf 2000 I z (nI p) (nI tn) = some (L (fac (I (z + 1)) n u p tn), I1) ∧ ∀ q, q ≠ z + 5 → q ≠ z + 6 → I1 q = I q := by
  unfold r_painsOf
  rcases hL with ⟨h0, rfl⟩ | ⟨h0, φ, hφ, rfl⟩
  · refine ⟨I, ?_, fun _ _ _ => rfl⟩
    have e : r_reckons 2000 I z 1 (nI p) (nI tn) = some (1, I) := by
      unfold r_reckons
      rw [chk_in (show vp_in (4 + 1) 3891 from vp_lit (by decide)), if_pos (show I (z + 1) (Int32.toNatClampNeg (4 + 1)) = 0 from h0)]
    rw [e, Option.bind_some]
    rfl
  · obtain ⟨I1, e1, hq⟩ := r_reckons_is (g := 1) tn rfl h hp (by decide) h0 hφ
    refine ⟨I1, ?_, hq⟩
    have e1 : r_reckons 2000 I z 1 (nI p) (nI tn) = _ := e1
    rw [e1, Option.bind_some]
    dsimp only
    generalize φ (fac (I (z + 1)) n u p tn) = v
    unfold clP
    by_cases c1 : -99 ≤ v
    · rw [if_pos c1, if_neg (Int32.not_lt.mpr c1)]
      by_cases c2 : v ≤ 99
      · rw [if_pos c2, if_neg (Int32.not_lt.mpr c2)]
      · rw [if_neg c2, if_pos (Int32.not_le.mp c2)]
    · rw [if_neg c1, if_pos (Int32.not_le.mp c1)]
