/-! rows: laws that look at no neighbours -/
def Ind (L : Row → Int32) : Prop := ∀ f f' : Row, (∀ k, k < 7 → k ≠ 4 → f k = f' k) → L f = L f'
theorem itC_split {C : Nat → Nat} {m : Nat} {f : Row} : ∀ (n k : Nat) (y : Nat × List Int32), itC C m f (n + k) y = (itC C m f n y).bind (itC C m f k)
  | 0, k, y => by rw [Nat.zero_add]; rfl
  | n + 1, k, y => by
    rw [show n + 1 + k = n + k + 1 by omega, itC, itC]
    cases stC C m f y with
    | none => rfl
    | some w => rw [Option.bind_some, Option.bind_some]; exact itC_split n k w
theorem itC_end {C : Nat → Nat} {m : Nat} {f : Row} {k : Nat} {s : List Int32} {y : Nat × List Int32} (h : itC C m f k (m, s) = some y) : k = 0 := by
  cases k with
  | zero => rfl
  | succ k =>
    rw [itC] at h
    have : stC C m f (m, s) = none := by
      unfold stC
      rw [if_pos (Nat.le_refl _)]
    rw [this] at h
    cases h
theorem stC_ind {C : Nat → Nat} {m : Nat} {f f' : Row} (hC : ∀ k, k < m → C k ≠ 65) (hf : ∀ k, k < 7 → k ≠ 4 → f k = f' k) (y : Nat × List Int32) : stC C m f y = stC C m f' y := by
  unfold stC
  by_cases c0 : m ≤ y.1
  · rw [if_pos c0, if_pos c0]
  · rw [if_neg c0, if_neg c0]
    by_cases c1 : C y.1 % 16 = 0
    · rw [if_pos c1, if_pos c1]
    · rw [if_neg c1, if_neg c1]
      by_cases c2 : C y.1 % 16 = 1
      · rw [if_pos c2, if_pos c2]
        by_cases c3 : y.2.length < 64 ∧ C y.1 / 16 < 7
        · rw [if_pos c3, if_pos c3, hf _ c3.2 (fun cc => hC y.1 (by omega) (by omega))]
        · rw [if_neg c3, if_neg c3]
      · rw [if_neg c2, if_neg c2]
theorem itC_ind {C : Nat → Nat} {m : Nat} {f f' : Row} (hC : ∀ k, k < m → C k ≠ 65) (hf : ∀ k, k < 7 → k ≠ 4 → f k = f' k) : ∀ (n : Nat) (y : Nat × List Int32), itC C m f n y = itC C m f' n y
  | 0, y => rfl
  | n + 1, y => by
    rw [itC, itC, stC_ind hC hf]
    cases stC C m f' y with
    | none => rfl
    | some w => exact itC_ind hC hf n w
theorem phi_ind {C : Nat → Nat} {m : Nat} {φ : Row → Int32} (h : ∀ f, ∃ n, itC C m f n (0, []) = some (m, [φ f])) (hC : ∀ k, k < m → C k ≠ 65) : Ind φ := fun f f' hf => by
  obtain ⟨n1, h1⟩ := h f
  obtain ⟨n2, h2⟩ := h f'
  rw [itC_ind hC hf] at h1
  have key : n1 = n2 := by
    rcases Nat.le_total n1 n2 with hl | hl
    · obtain ⟨k, rfl⟩ := Nat.exists_eq_add_of_le hl
      rw [itC_split, h1, Option.bind_some] at h2
      have := itC_end h2
      omega
    · obtain ⟨k, rfl⟩ := Nat.exists_eq_add_of_le hl
      rw [itC_split, h2, Option.bind_some] at h1
      have := itC_end h1
      omega
  subst key
  rw [h1] at h2
  injection h2 with h2
  injection h2 with h2 h3
  injection h3
theorem look_go {T : Nat → Option (Nat × Nat)} {I : Nat → Nat → Int32} {w m : Nat} {C : Nat → Nat} {g1 : Int32} (hw : CWd T I w m C) : ∀ (j k f : Nat), k + j = m → j < f → (∃ i, k ≤ i ∧ i < m ∧ C i = 65 ∧ w_looksAt_8 2000 T I w g1 65 f (nI k) = some (.inl 1)) ∨ ((∀ i, k ≤ i → i < m → C i ≠ 65) ∧ w_looksAt_8 2000 T I w g1 65 f (nI k) = some (.inr (nI m))) := by
  obtain ⟨w1, w2, w3⟩ := hw
  intro j
  induction j with
  | zero =>
    intro k f hk hf
    obtain ⟨f, rfl⟩ : ∃ f', f = f' + 1 := ⟨f - 1, by omega⟩
    obtain rfl : k = m := by omega
    refine Or.inr ⟨fun i a b => by omega, ?_⟩
    rw [w_looksAt_8, w2, if_pos (nI_le (Nat.le_refl _) (by omega))]
  | succ j ih =>
    intro k f hk hf
    obtain ⟨f, rfl⟩ : ∃ f', f = f' + 1 := ⟨f - 1, by omega⟩
    obtain ⟨c1, c2⟩ := w3 k (by omega)
    rw [w_looksAt_8, w2, if_neg (nI_ge (by omega) (by omega)), chk_nI (show k < m by omega) (by omega), nI_cl (show k < 2147483648 by omega), c2]
    by_cases e : C k = 65
    · rw [if_pos (show nI (C k) = 65 by rw [e]; rfl)]
      exact Or.inl ⟨k, Nat.le_refl _, by omega, e, rfl⟩
    · rw [if_neg (show ¬ nI (C k) = 65 from fun cc => e ((nI_eq (b := 65) (by omega) (by omega)).mp cc)), nI_1]
      rcases ih (k + 1) f (by omega) (by omega) with ⟨i, a1, a2, a3, a4⟩ | ⟨a1, a2⟩
      · exact Or.inl ⟨i, by omega, a2, a3, a4⟩
      · refine Or.inr ⟨fun i b1 b2 => ?_, a2⟩
        by_cases ei : i = k
        · subst ei; exact e
        · exact a1 i (by omega) b2
theorem heeds_is {T : Nat → Option (Nat × Nat)} {I : Nat → Nat → Int32} {P : Nat → Nat → Option Nat} {c : Nat} {LT : Row → Int32} (h : CT T I P c LT) : ∃ b : Bool, ct_heedsNeighbours 2000 T I P c = some (b2 b) ∧ (b = false → Ind LT) := by
  unfold ct_heedsNeighbours
  rcases h with ⟨h0, rfl⟩ | ⟨w, φ, h0, ⟨C, m, hw, hp⟩, rfl⟩
  · rw [h0]
    exact ⟨false, rfl, fun _ _ _ _ => rfl⟩
  · rw [h0]
    try dsimp only
    unfold w_looksAt
    try dsimp only
    rw [show w_step 1 4 = 65 by decide]
    rcases look_go (g1 := 4) hw m 0 2000 (by omega) (by have := hw.1; omega) with ⟨i, -, -, -, e⟩ | ⟨e1, e2⟩
    · have e : w_looksAt_8 2000 T I w 4 65 2000 0 = _ := e
      rw [e]
      exact ⟨true, rfl, fun cc => by cases cc⟩
    · have e2 : w_looksAt_8 2000 T I w 4 65 2000 0 = _ := e2
      rw [e2]
      refine ⟨false, rfl, fun _ f f' hf => ?_⟩
      try dsimp only
      rw [phi_ind hp (fun k hk => e1 k (by omega) hk) f f' hf]
/-- rows that differ by where people stand, and by pains -/
def Rl (A A' : Row) : Prop := ∀ k, ¬ (35 ≤ k ∧ k < 41) → ¬ (47 ≤ k ∧ k < 53) → A' k = A k
theorem mpst_ind {ls ls' pn pn' : Nat → Int32} {p u : Nat} {A A' : Row} (hp : p < 6) (hl : ls' p = ls p) (h : Rl A A') : (mpst ls' pn' p u A').1 = (mpst ls pn p u A).1 ∧ Rl (mpst ls pn p u A).2 (mpst ls' pn' p u A').2 := by
  unfold mpst
  rw [hl, h (41 + p) (by omega) (by omega), h 33 (by omega) (by omega), h 34 (by omega) (by omega)]
  cases ub u p with
  | false => exact ⟨rfl, h⟩
  | true =>
    rw [if_pos rfl, if_pos rfl]
    by_cases c : A (41 + p) - ls p < 0
    · rw [if_pos c, if_pos c]
      refine ⟨rfl, fun k h1 h2 => ?_⟩
      unfold upd
      try dsimp only
      rw [if_neg (show ¬ k = 47 + p by omega), if_neg (show ¬ k = 47 + p by omega), h k h1 h2]
    · rw [if_neg c, if_neg c]
      refine ⟨rfl, fun k h1 h2 => ?_⟩
      unfold upd
      try dsimp only
      rw [if_neg (show ¬ k = 47 + p by omega), if_neg (show ¬ k = 47 + p by omega), h k h1 h2]
theorem mplp_ind {ls ls' pn pn' : Nat → Int32} {n u : Nat} {A A' : Row} (hn : n ≤ 6) (hl : ∀ p, p < n → ls' p = ls p) (h : Rl A A') : ∀ j, j ≤ n → (mplp ls' pn' j u A').1 = (mplp ls pn j u A).1 ∧ Rl (mplp ls pn j u A).2 (mplp ls' pn' j u A').2
  | 0, _ => ⟨rfl, h⟩
  | j + 1, hj => by
    obtain ⟨h1, h2⟩ := mplp_ind (u := u) (pn := pn) (pn' := pn') hn hl h j (by omega)
    rw [mplp, mplp, h1]
    exact mpst_ind (by omega) (hl j (by omega)) h2
theorem mplay_ind {LT LP : Row → Int32} {A A' : Row} {n u t : Nat} (hn : n ≤ 6) (hL : Ind LT) (h : Rl A A') : (mplay LT LP A' n u t).1 = (mplay LT LP A n u t).1 ∧ Rl (mplay LT LP A n u t).2 (mplay LT LP A' n u t).2 := by
  unfold mplay
  refine mplp_ind hn (fun p hp => hL _ _ (fun k hk h4 => ?_)) (fun k h1 h2 => ?_) n (Nat.le_refl _)
  · unfold fac
    rw [if_neg h4, if_neg h4, h (16 + p) (by omega) (by omega), h (41 + p) (by omega) (by omega), h 33 (by omega) (by omega)]
  · unfold mtick upd
    try dsimp only
    rw [h 33 (by omega) (by omega), h 34 (by omega) (by omega), h k h1 h2]
theorem mmin_ind {LT LP : Row → Int32} {n p : Nat} {tl : Nat → Nat} (hn : n ≤ 6) (hL : Ind LT) : ∀ (j k u : Nat) (A A' : Row), Rl A A' → mmin LT LP n tl p j k u A' = mmin LT LP n tl p j k u A
  | 0, k, u, A, A', h => rfl
  | j + 1, k, u, A, A', h => by
    obtain ⟨h1, h2⟩ := mplay_ind (LP := LP) (u := u) (t := tl k) hn hL h
    rw [mmin, mmin, h1, mmin_ind hn hL j (k + 1) _ _ _ h2]
theorem mmin_le {LT LP : Row → Int32} {n p : Nat} {tl : Nat → Nat} : ∀ (j k u : Nat) (A : Row), mmin LT LP n tl p j k u A ≤ k + j
  | 0, k, u, A => Nat.le_refl _
  | j + 1, k, u, A => by
    rw [mmin]
    split
    · have := mmin_le (LT := LT) (LP := LP) (n := n) (p := p) (tl := tl) j (k + 1) (mplay LT LP A n u (tl k)).1 (mplay LT LP A n u (tl k)).2
      omega
    · omega
theorem mfold_top {val : List Nat → Nat} {w : Nat} {o' : List Nat} : ∀ (l : List (List Nat)), (∀ o, o ∈ l → val o ≤ w) → mfold val (some (w, o')) l = some (w, o')
  | [], _ => rfl
  | o :: t, h => by
    rw [mfold, mup_ge (val := val) rfl (by have := h o (List.mem_cons_self); omega)]
    exact mfold_top t (fun o ho => h o (List.mem_cons_of_mem _ ho))
/-! rows: the class goes through orders -/
def RsC (I : Nat → Nat → Int32) (x n : Nat) (b : Option (Nat × List Nat)) : Prop := (b = none ∧ I (x + 108) 4 = -1) ∨ ∃ w o, b = some (w, o) ∧ w ≤ 30 ∧ I (x + 108) 4 = nI w ∧ ∀ k, k < n → I (x + 112) k = nI (o.getD k 0)
def Rx (I I1 : Nat → Nat → Int32) (x c : Nat) : Prop := (∀ q, ¬ (x + 101 ≤ q ∧ q ≤ x + 108) → q ≠ x + 112 → q ≠ x + 113 → q ≠ c + 5 → q ≠ c + 6 → q ≠ c + 7 → I1 q = I q) ∧ ∀ k, k ≠ 4 → I1 (x + 108) k = I (x + 108) k
theorem Rx.tr {I I1 I2 : Nat → Nat → Int32} {x c : Nat} (h : Rx I I1 x c) (h2 : Rx I1 I2 x c) : Rx I I2 x c := ⟨fun q a1 a2 a3 a4 a5 a6 => (h2.1 q a1 a2 a3 a4 a5 a6).trans (h.1 q a1 a2 a3 a4 a5 a6), fun k hk => (h2.2 k hk).trans (h.2 k hk)⟩
section
variable {T : Nat → Option (Nat × Nat)} {I : Nat → Nat → Int32} {J : Nat → Nat → Int64} {P : Nat → Nat → Option Nat} {x nn c : Nat} {Iz : Nat → Nat → Int32} {Jz : Nat → Nat → Int64} {z N n u tn : Nat} {LT LP : Row → Int32} {d na v e : Nat}
theorem step_is (hsr : isSR T P x) (h : InvK T I J P x nn c Iz Jz z N n u tn LT LP v) (hN : N < 600) {t m p : Nat} {tl : Nat → Nat} (hp : p < n) {I1 S : Nat → Nat → Int32} {o : List Nat} {b : Option (Nat × List Nat)} {g5 l7 w : Int32} {R : Row} {f : Nat} (ho : Pm n o) (hx : Rx I I1 x c) (hNg : Ngt I1 x Iz Jz z t m tn tl) (hq : E6 (I1 (x + 113)) (oR o)) (hB : RsC I1 x n b) (hnx : nxt 2000 (I1 (x + 113)) (nI n) = some (w, R)) (h7 : ¬ g5 ≤ l7) (hlt : ¬ I1 (x + 108) 1 ≤ I1 (x + 108) 4) :
    ∃ I2, ni_findRow_52 2000 T P x c (x + 12) (x + 101) (nI p) g5 (f + 1) 1 l7 I1 = ni_findRow_52 2000 T P x c (x + 12) (x + 101) (nI p) g5 f w (l7 + 1) I2 ∧ Rx I I2 x c ∧ Ngt I2 x Iz Jz z t m tn tl ∧ I2 (x + 113) = R ∧ RsC I2 x n (mup (fun o => mmin LT LP n tl p m 0 u (mor1 (Iz (z + 1)) o n)) b o) := by
  have hcx := h.apx.1
  have hn := h.n6
  have hm := hNg.2.1
  have hI : ∀ q, ¬ Scr x c q → I1 q = I q := fun q hq => by
    unfold Scr at hq
    exact hx.1 q (by omega) (by omega) (by omega) (by omega) (by omega) (by omega)
  obtain ⟨I2, I3, I4, Iz3, c1, c2, c3, -, c4, c5, -⟩ := order_is hsr h hN (I1 := I1) (Iz2 := sR Iz (z + 1) (mor1 (Iz (z + 1)) o n)) hp ho hI (fun i hi => by rw [hq i (by omega)]; unfold oR; rw [if_pos (by rw [ho.1]; exact hi)]) (hNg.fx rfl rfl (sR_o (by omega))) sR_e
  generalize hr : mmin LT LP n tl p m 0 u (mor1 (Iz (z + 1)) o n) = r at c3 c4
  have i108 : I4 (x + 108) = I1 (x + 108) := c5 _ (by omega) (by omega) (by omega) (by omega)
  have i112 : I4 (x + 112) = I1 (x + 112) := c5 _ (by omega) (by omega) (by omega) (by omega)
  have i113 : I4 (x + 113) = I1 (x + 113) := c5 _ (by omega) (by omega) (by omega) (by omega)
  have i109 : I4 (x + 109) = I1 (x + 109) := c5 _ (by omega) (by omega) (by omega) (by omega)
  have ic : I4 c 0 = nI n := by
    rw [c5 _ (by omega) (by omega) (by omega) (by omega), hx.1 _ (by omega) (by omega) (by omega) (by omega) (by omega) (by omega)]
    exact h.c0
  have x4 : Rx I I4 x c := hx.tr ⟨fun q a1 a2 a3 a4 a5 a6 => c5 q (by omega) a4 a5 a6, fun k hk => by rw [i108]⟩
  rw [ni_findRow_52, if_neg h7, if_neg (show ¬ (1 : Int32) = 0 by decide), if_neg hlt, c1, Option.bind_some]
  try dsimp only
  rw [c2, Option.bind_some]
  try dsimp only
  rw [c3, Option.bind_some]
  try dsimp only
  have stay : ∀ (I5 : Nat → Nat → Int32), I5 (x + 113) = I1 (x + 113) → I5 c 0 = nI n → (ni_goToNextOrder 2000 I5 x (I5 c 0)).bind (fun q29 => let u31 := q29.1; let I32 := q29.2; ni_findRow_52 2000 T P x c (x + 12) (x + 101) (nI p) g5 f u31 (l7 + 1) I32) = ni_findRow_52 2000 T P x c (x + 12) (x + 101) (nI p) g5 f w (l7 + 1) (sR I5 (x + 113) R) := fun I5 e1 e2 => by
    rw [e2, next_loc, e1, hnx]
    rfl
  have keepb : (r : Int) ≤ 30 := by omega
  have notup : ∀ b', RsC I4 x n b' → ∃ I2, ni_findRow_52 2000 T P x c (x + 12) (x + 101) (nI p) g5 f w (l7 + 1) (sR I4 (x + 113) R) = ni_findRow_52 2000 T P x c (x + 12) (x + 101) (nI p) g5 f w (l7 + 1) I2 ∧ Rx I I2 x c ∧ Ngt I2 x Iz Jz z t m tn tl ∧ I2 (x + 113) = R ∧ RsC I2 x n b' := fun b' hb => by
    refine ⟨_, rfl, x4.tr ⟨fun q a1 a2 a3 a4 a5 a6 => sR_o a3, fun k hk => by rw [sR_o (by omega)]⟩, hNg.fx (by rw [sR_o (by omega), i108]) (by rw [sR_o (by omega), i109]) rfl, sR_e, ?_⟩
    unfold RsC
    rw [sR_o (show x + 108 ≠ x + 113 by omega), sR_o (show x + 112 ≠ x + 113 by omega)]
    exact hb
  have up : ∃ I2, (ni_goToNextOrder 2000 (cpI (uI I4 (x + 108) 4 (nI r)) (x + 113) (x + 112) (Int32.toNatClampNeg 0) (Int32.toNatClampNeg 0) (Int32.toNatClampNeg 6)) x ((cpI (uI I4 (x + 108) 4 (nI r)) (x + 113) (x + 112) (Int32.toNatClampNeg 0) (Int32.toNatClampNeg 0) (Int32.toNatClampNeg 6)) c 0)).bind (fun q29 => let u31 := q29.1; let I32 := q29.2; ni_findRow_52 2000 T P x c (x + 12) (x + 101) (nI p) g5 f u31 (l7 + 1) I32) = ni_findRow_52 2000 T P x c (x + 12) (x + 101) (nI p) g5 f w (l7 + 1) I2 ∧ Rx I I2 x c ∧ Ngt I2 x Iz Jz z t m tn tl ∧ I2 (x + 113) = R ∧ RsC I2 x n (some (r, o)) := by
    rw [show Int32.toNatClampNeg 0 = 0 from rfl, show Int32.toNatClampNeg 6 = 6 from rfl]
    generalize hI5 : cpI (uI I4 (x + 108) 4 (nI r)) (x + 113) (x + 112) 0 0 6 = I5
    have o5 : ∀ q, q ≠ x + 108 → q ≠ x + 112 → I5 q = I4 q := fun q a1 a2 => by rw [← hI5, cpI_row a2, uI_row _ _ _ _ _ a1]
    have e108 : I5 (x + 108) = upd (I4 (x + 108)) 4 (nI r) := by rw [← hI5, cpI_row (by omega), uI_s]
    have e112 : ∀ k, k < 6 → I5 (x + 112) k = I1 (x + 113) k := fun k hk => by rw [← hI5, cpI_e hk, uI_row _ _ _ _ _ (by omega), i113]
    rw [stay I5 (by rw [o5 _ (by omega) (by omega), i113]) (by rw [o5 _ (by omega) (by omega)]; exact ic)]
    refine ⟨_, rfl, x4.tr ⟨fun q a1 a2 a3 a4 a5 a6 => by rw [sR_o a3, o5 q (by omega) a2], fun k hk => by rw [sR_o (by omega), e108, pk_un hk]⟩, hNg.fx (by rw [sR_o (by omega), e108, pk_un (by decide), i108]) (by rw [sR_o (by omega), o5 _ (by omega) (by omega), i109]) rfl, sR_e, Or.inr ⟨r, o, rfl, by omega, by rw [sR_o (by omega), e108, pk_us], fun k hk => ?_⟩⟩
    rw [sR_o (by omega), e112 k (by omega), hq k (by omega)]
    unfold oR
    rw [if_pos (by rw [ho.1]; exact hk)]
  rcases hB with ⟨hb, h4⟩ | ⟨w', o', hb, hw, h4, h112⟩
  · rw [if_neg (show ¬ nI r ≤ I4 (x + 108) 4 by
      rw [i108, h4, i32_le, nI_toInt (by omega)]
      have k1 : (-1 : Int32).toInt = -1 := rfl
      omega), hb, mup_n (val := fun o => mmin LT LP n tl p m 0 u (mor1 (Iz (z + 1)) o n)) hr]
    exact up
  · by_cases cc : w' < r
    · rw [if_neg (show ¬ nI r ≤ I4 (x + 108) 4 by rw [i108, h4]; exact nI_ge cc (by omega)), hb, mup_lt (val := fun o => mmin LT LP n tl p m 0 u (mor1 (Iz (z + 1)) o n)) hr cc]
      exact up
    · rw [if_pos (show nI r ≤ I4 (x + 108) 4 by rw [i108, h4]; exact nI_le (by omega) (by omega)), hb, mup_ge (val := fun o => mmin LT LP n tl p m 0 u (mor1 (Iz (z + 1)) o n)) hr cc, stay I4 i113 ic]
      exact notup _ (Or.inr ⟨w', o', rfl, hw, by rw [i108]; exact h4, fun k hk => by rw [i112]; exact h112 k hk⟩)
end
