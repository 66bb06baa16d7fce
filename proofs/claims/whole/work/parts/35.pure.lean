/-! the class: laws as steps for a stack, with leaps forward -/
def stC (C : Nat → Nat) (m : Nat) (f : Row) (x : Nat × List Int32) : Option (Nat × List Int32) :=
  if m ≤ x.1 then none
  else if C x.1 % 16 = 0 then (if x.2.length < 64 then some (x.1 + 1, nI (C x.1 / 16) :: x.2) else none)
  else if C x.1 % 16 = 1 then (if x.2.length < 64 ∧ C x.1 / 16 < 7 then some (x.1 + 1, f (C x.1 / 16) :: x.2) else none)
  else if C x.1 % 16 ≤ 9 then (match x.2 with | b :: a :: s => some (x.1 + 1, w_join (nI (C x.1 % 16)) a b :: s) | _ => none)
  else if C x.1 % 16 = 12 then (if x.1 < C x.1 / 16 then some (C x.1 / 16, x.2) else none)
  else (match x.2 with
    | a :: s => if C x.1 % 16 = 10 then some (x.1 + 1, (if a = 0 then 1 else 0) :: s) else if a = 0 then (if x.1 < C x.1 / 16 then some (C x.1 / 16, s) else none) else some (x.1 + 1, s)
    | _ => none)
def itC (C : Nat → Nat) (m : Nat) (f : Row) : Nat → Nat × List Int32 → Option (Nat × List Int32)
  | 0, x => some x
  | n + 1, x => (stC C m f x).bind (itC C m f n)
theorem stC_lt {C : Nat → Nat} {m : Nat} {f : Row} {x y : Nat × List Int32} (h : stC C m f x = some y) : x.1 < y.1 ∧ x.1 < m := by
  unfold stC at h
  by_cases h0 : m ≤ x.1
  · rw [if_pos h0] at h; cases h
  rw [if_neg h0] at h
  refine ⟨?_, by omega⟩
  by_cases c0 : C x.1 % 16 = 0
  · rw [if_pos c0] at h
    split at h
    · cases h; exact Nat.lt_succ_self _
    · cases h
  rw [if_neg c0] at h
  by_cases c1 : C x.1 % 16 = 1
  · rw [if_pos c1] at h
    split at h
    · cases h; exact Nat.lt_succ_self _
    · cases h
  rw [if_neg c1] at h
  by_cases c2 : C x.1 % 16 ≤ 9
  · rw [if_pos c2] at h
    split at h
    · cases h; exact Nat.lt_succ_self _
    · cases h
  rw [if_neg c2] at h
  by_cases c3 : C x.1 % 16 = 12
  · rw [if_pos c3] at h
    split at h
    · next hh => cases h; exact hh
    · cases h
  rw [if_neg c3] at h
  split at h
  · split at h
    · cases h; exact Nat.lt_succ_self _
    · split at h
      · split at h
        · next hh => cases h; exact hh
        · cases h
      · cases h; exact Nat.lt_succ_self _
  · cases h
theorem itC_lt {C : Nat → Nat} {m : Nat} {f : Row} : ∀ (n : Nat) (x y : Nat × List Int32), itC C m f n x = some y → x.1 + n ≤ y.1
  | 0, x, y, h => by cases h; exact Nat.le_refl _
  | n + 1, x, y, h => by
    obtain ⟨z, h1, h2⟩ := Option.bind_eq_some_iff.mp (show (stC C m f x).bind (itC C m f n) = some y from h)
    have := (stC_lt h1).1
    have := itC_lt n z y h2
    omega
theorem itC_add {C : Nat → Nat} {m : Nat} {f : Row} : ∀ (n k : Nat) (x y z : Nat × List Int32), itC C m f n x = some y → itC C m f k y = some z → itC C m f (n + k) x = some z
  | 0, k, x, y, z, h, h2 => by cases h; rw [Nat.zero_add]; exact h2
  | n + 1, k, x, y, z, h, h2 => by
    obtain ⟨w, h1, h3⟩ := Option.bind_eq_some_iff.mp (show (stC C m f x).bind (itC C m f n) = some y from h)
    rw [show n + 1 + k = n + k + 1 by omega]
    exact Option.bind_eq_some_iff.mpr ⟨w, h1, itC_add n k w y z h3 h2⟩
/-- a law of the class: its steps, by their words -/
def CWd (T : Nat → Option (Nat × Nat)) (I : Nat → Nat → Int32) (w m : Nat) (C : Nat → Nat) : Prop := m ≤ 900 ∧ lenT T (w + 1) = m ∧ ∀ k, k < m → C k < 16000 ∧ I (w + 1) k = nI (C k)
theorem tell_step {T : Nat → Option (Nat × Nat)} {w qa qb m : Nat} {C : Nat → Nat} {f : Row} {k c : Nat} {x y : Nat × List Int32} {I : Nat → Nat → Int32} (hw : CWd T I w m C) (hqa : lenT T qa = 7) (hqb : lenT T qb = 64) (hf : I qa = f) (hc : c ≤ x.1) (hS : SK (I qb) x.2) (he : stC C m f x = some y) (hlen : x.2.length ≤ 64) :
    ∃ I1, w_tell_8 2000 T w qa qb (k + 1) (nI x.2.length) (nI x.1) (nI c) I = w_tell_8 2000 T w qa qb k (nI y.2.length) (nI y.1) (nI (c + 1)) I1 ∧ SK (I1 qb) y.2 ∧ y.2.length ≤ 64 ∧ ∀ q, q ≠ qb → I1 q = I q := by
  obtain ⟨hm, hl, hC⟩ := hw
  obtain ⟨pc, s⟩ := x
  have hpc : pc < m := (stC_lt he).2
  obtain ⟨hC1, hC2⟩ := hC pc hpc
  have hc : c ≤ pc := hc
  have hS : SK (I qb) s := hS
  have hlen : s.length ≤ 64 := hlen
  unfold stC at he
  rw [if_neg (by show ¬ m ≤ pc; omega)] at he
  dsimp only at he ⊢
  have e15 : nI (C pc) &&& 15 = nI (C pc % 16) := pk_andN (k := 4) (by omega) rfl
  have e4 : nI (C pc) >>> (4 &&& 31) = nI (C pc / 16) := pk_shrN (k := 4) (by omega) _ rfl
  rw [w_tell_8, hl, if_neg (nI_ge (by omega) (by omega)), if_neg (nI_ge (by omega) (by omega)), chk_nI (by omega) (by omega), nI_cl (by omega), hC2, e15, e4]
  dsimp only
  generalize hop : C pc % 16 = op at he ⊢
  generalize ho : C pc / 16 = o at he ⊢
  have hop16 : op < 16 := by omega
  have ho1000 : o < 1000 := by omega
  rw [hqa, hqb]
  by_cases c0 : op = 0
  · subst c0
    rw [if_pos rfl] at he
    rw [if_neg (by decide)]
    by_cases hs : s.length < 64
    · rw [if_pos hs] at he
      cases he
      rw [if_neg (nI_ge hs (by decide)), if_pos (show nI 0 = 0 from rfl), if_pos (show nI 0 = 0 from rfl), chk_nI hs (by decide), nI_cl (by omega), nI_1, nI_1, nI_1]
      exact ⟨_, rfl, by rw [uI_s]; exact SK.push hS, hs, fun q hq => uI_n _ _ _ hq⟩
    · rw [if_neg hs] at he
      cases he
  rw [if_neg c0] at he
  have n0 : ¬ nI op = 0 := nI_ne0 (by omega) (by omega)
  by_cases c1 : op = 1
  · subst c1
    rw [if_pos rfl] at he
    rw [if_neg (by decide)]
    by_cases hs : s.length < 64 ∧ o < 7
    · rw [if_pos hs] at he
      cases he
      rw [if_neg (nI_ge hs.1 (by decide)), if_neg n0, if_neg (nI_ge hs.2 (by decide)), if_neg n0, chk_nI hs.2 (by decide), chk_nI hs.1 (by decide), nI_cl (by omega), nI_cl (by omega), hf, nI_1, nI_1, nI_1]
      exact ⟨_, rfl, by rw [uI_s]; exact SK.push hS, hs.1, fun q hq => uI_n _ _ _ hq⟩
    · rw [if_neg hs] at he
      cases he
  rw [if_neg c1] at he
  rw [if_pos (show (1 : Int32) < nI op from nI_lt (a := 1) (by omega) (by omega))]
  by_cases c2 : op ≤ 9
  · rw [if_pos c2] at he
    rw [if_neg (show ¬ (9 : Int32) < nI op from nI_nlt (b := op) (a := 9) c2 (by decide))]
    match s, hS, hlen, he with
    | [], _, _, he => cases he
    | [_], _, _, he => cases he
    | b :: a :: s, hS, hlen, he =>
      cases he
      obtain ⟨g1, g2, g3⟩ := hS
      have hlen : s.length + 1 + 1 ≤ 64 := hlen
      have g1 : I qb (s.length + 1) = b := g1
      have e7 : nI (b :: a :: s).length + (-1) = nI (s.length + 1) := by
        show nI (s.length + 1 + 1) + (-1) = _
        rw [pk_m1]
      have e8 : nI (s.length + 1) - 1 = nI s.length := nI_pred s.length
      rw [if_neg (show ¬ nI (b :: a :: s).length < 2 from nI_nlt (b := 2) (by show 2 ≤ s.length + 1 + 1; omega) (by show s.length + 1 + 1 < _; omega))]
      rw [e7, e8, chk_nI (by omega) (by decide), chk_nI (by omega) (by decide), nI_cl (by omega), nI_cl (by omega), g1, g2, nI_1, nI_1]
      exact ⟨_, rfl, by rw [uI_s]; exact SK.push g3, by show s.length + 1 ≤ 64; omega, fun q hq => uI_n _ _ _ hq⟩
  rw [if_neg c2] at he
  rw [if_pos (show (9 : Int32) < nI op from nI_lt (a := 9) (by omega) (by omega))]
  by_cases c3 : op = 12
  · rw [if_pos c3] at he
    rw [if_pos (show nI op = 12 by rw [c3]; rfl)]
    by_cases hs : pc < o
    · rw [if_pos hs] at he
      cases he
      rw [nI_1]
      exact ⟨I, rfl, hS, hlen, fun _ _ => rfl⟩
    · rw [if_neg hs] at he
      cases he
  rw [if_neg c3] at he
  rw [if_neg (show ¬ nI op = 12 from fun h => c3 ((nI_eq (by omega) (by decide)).mp (show nI op = nI 12 from h)))]
  match s, hS, hlen, he with
  | [], _, _, he => cases he
  | a :: s, hS, hlen, he =>
    obtain ⟨g1, g3⟩ := hS
    have hlen : s.length + 1 ≤ 64 := hlen
    have e8 : nI (a :: s).length - 1 = nI s.length := nI_pred s.length
    have e9 : nI (a :: s).length + (-1) = nI s.length := pk_m1 s.length
    rw [if_neg (show ¬ nI (a :: s).length < 1 from nI_nlt (b := 1) (by show 1 ≤ s.length + 1; omega) (by show s.length + 1 < _; omega))]
    rw [e8, chk_nI (by omega) (by decide), nI_cl (by omega), g1, e9]
    dsimp only at he
    by_cases c4 : op = 10
    · rw [if_pos c4] at he
      have hop10 : nI op = 10 := by rw [c4]; rfl
      cases he
      by_cases ha : a = 0
      · rw [if_pos ha, if_pos ha, if_pos hop10, nI_1, nI_1]
        exact ⟨_, rfl, by rw [uI_s]; exact SK.push g3, hlen, fun q hq => uI_n _ _ _ hq⟩
      · rw [if_neg ha, if_neg ha, if_pos hop10, nI_1, nI_1]
        exact ⟨_, rfl, by rw [uI_s]; exact SK.push g3, hlen, fun q hq => uI_n _ _ _ hq⟩
    · rw [if_neg c4] at he
      have hop10 : ¬ nI op = 10 := fun h => c4 ((nI_eq (by omega) (by decide)).mp (show nI op = nI 10 from h))
      by_cases ha : a = 0
      · rw [if_pos ha] at he
        rw [if_pos ha, if_neg hop10, nI_1]
        by_cases hs : pc < o
        · rw [if_pos hs] at he
          cases he
          exact ⟨I, rfl, g3, by show s.length ≤ 64; omega, fun _ _ => rfl⟩
        · rw [if_neg hs] at he
          cases he
      · rw [if_neg ha] at he
        rw [if_neg ha, if_neg hop10, nI_1, nI_1]
        cases he
        exact ⟨I, rfl, g3, by show s.length ≤ 64; omega, fun _ _ => rfl⟩
theorem CWd.same {T : Nat → Option (Nat × Nat)} {I I' : Nat → Nat → Int32} {w m : Nat} {C : Nat → Nat} (h : CWd T I w m C) (e : I' (w + 1) = I (w + 1)) : CWd T I' w m C := ⟨h.1, h.2.1, fun k hk => by rw [e]; exact h.2.2 k hk⟩
theorem tell_go {T : Nat → Option (Nat × Nat)} {w qa qb m : Nat} {C : Nat → Nat} {f : Row} (hqa : lenT T qa = 7) (hqb : lenT T qb = 64) (hab : qa ≠ qb) (hwb : w + 1 ≠ qb) : ∀ (n k c : Nat) (x y : Nat × List Int32) (I : Nat → Nat → Int32), CWd T I w m C → I qa = f → c ≤ x.1 → SK (I qb) x.2 → x.2.length ≤ 64 → itC C m f n x = some y →
    ∃ I1, w_tell_8 2000 T w qa qb (n + k) (nI x.2.length) (nI x.1) (nI c) I = w_tell_8 2000 T w qa qb k (nI y.2.length) (nI y.1) (nI (c + n)) I1 ∧ SK (I1 qb) y.2 ∧ ∀ q, q ≠ qb → I1 q = I q := by
  intro n
  induction n with
  | zero =>
    intro k c x y I hw hf hc hS hl he
    cases he
    exact ⟨I, by rw [Nat.zero_add]; rfl, hS, fun _ _ => rfl⟩
  | succ n ih =>
    intro k c x y I hw hf hc hS hl he
    obtain ⟨z, h1, h2⟩ := Option.bind_eq_some_iff.mp (show (stC C m f x).bind (itC C m f n) = some y from he)
    obtain ⟨I1, e1, hS1, hl1, hq1⟩ := tell_step (k := n + k) hw hqa hqb hf hc hS h1 hl
    obtain ⟨I2, e2, hS2, hq2⟩ := ih k (c + 1) z y I1 (hw.same (hq1 _ hwb)) (by rw [hq1 _ hab]; exact hf) (by have := (stC_lt h1).1; omega) hS1 hl1 h2
    refine ⟨I2, ?_, hS2, fun q hq => (hq2 q hq).trans (hq1 q hq)⟩
    rw [show n + 1 + k = n + k + 1 by omega, e1, e2, show c + 1 + n = c + (n + 1) by omega]
/-- a law of the class tells what φ tells of the facts -/
def CLw (T : Nat → Option (Nat × Nat)) (I : Nat → Nat → Int32) (w : Nat) (φ : Row → Int32) : Prop := ∃ (C : Nat → Nat) (m : Nat), CWd T I w m C ∧ ∀ f, ∃ n, itC C m f n (0, []) = some (m, [φ f])
theorem tell_is {T : Nat → Option (Nat × Nat)} {I : Nat → Nat → Int32} {w qa qb : Nat} {φ : Row → Int32} (h : CLw T I w φ) (hqa : lenT T qa = 7) (hqb : lenT T qb = 64) (hab : qa ≠ qb) (hwb : w + 1 ≠ qb) : ∃ I1, w_tell 2000 T I w qa qb = some (φ (I qa), I1) ∧ ∀ q, q ≠ qb → I1 q = I q := by
  obtain ⟨C, m, hw, he⟩ := h
  obtain ⟨n, he⟩ := he (I qa)
  have hn := itC_lt n _ _ he
  have hn : 0 + n ≤ m := hn
  have hm := hw.1
  obtain ⟨I1, e1, hS, hq⟩ := tell_go hqa hqb hab hwb n (2000 - n) 0 (0, []) (m, [φ (I qa)]) I hw rfl (Nat.le_refl _) trivial (Nat.zero_le _) he
  rw [show n + (2000 - n) = 2000 by omega] at e1
  refine ⟨I1, ?_, hq⟩
  unfold w_tell
  have e1 : w_tell_8 2000 T w qa qb 2000 0 0 0 I = _ := e1
  rw [e1]
  obtain ⟨j, hj⟩ : ∃ j, 2000 - n = j + 1 := ⟨2000 - n - 1, by omega⟩
  have e2 : w_tell_8 2000 T w qa qb (2000 - n) (nI [φ (I qa)].length) (nI m) (nI (0 + n)) I1 = some (nI 1, nI m, nI (0 + n), I1) := by
    rw [hj, w_tell_8, hw.2.1]
    by_cases c : nI m ≤ nI (0 + n)
    · rw [if_pos c]; rfl
    · rw [if_neg c, if_pos (nI_le (Nat.le_refl _) (by omega))]; rfl
  rw [e2, Option.bind_some]
  dsimp only
  rw [if_neg (by decide), hqb, chk_in (show vp_in (nI 1 - 1) 64 from vp_lit (by decide))]
  exact congrArg some (Prod.ext hS.1 rfl)
