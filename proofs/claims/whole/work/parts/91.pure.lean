/-! rows: what was asked last; row, rowSpot -/
theorem range_oR {n : Nat} : E6 (oR (List.range n)) (fun k => nI k) := fun k hk => by
  unfold oR
  by_cases c : k < (List.range n).length
  · rw [if_pos c, List.getD_eq_getElem?_getD, List.getElem?_eq_getElem c, List.getElem_range]
    rfl
  · rw [if_neg c]
section
variable {T : Nat → Option (Nat × Nat)} {I : Nat → Nat → Int32} {J : Nat → Nat → Int64} {P : Nat → Nat → Option Nat} {x nn c : Nat} {Iz : Nat → Nat → Int32} {Jz : Nat → Nat → Int64} {z N n u tn : Nat} {LT LP : Row → Int32} {d na v e : Nat}
theorem Ngt.jz {t m : Nat} {tl : Nat → Nat} (h : Ngt I x Iz Jz z t m tn tl) {Jz' : Nat → Nat → Int64} (e : Jz' (z + 20) = Jz (z + 20)) : Ngt I x Iz Jz' z t m tn tl := by
  obtain ⟨h1, h2, h3, h4, h5⟩ := h
  exact ⟨h1, h2, h3, h4, fun i hi => by rw [e]; exact h5 i hi⟩
theorem all_go2 (hsr : isSR T P x) (h : InvK T I J P x nn c Iz Jz z N n u tn LT LP v) (hN : N < 600) {t m p : Nat} {tl : Nat → Nat} (hp : p < n) : ∀ (L : List (List Nat)) (o : List Nat) (i f : Nat) (b : Option (Nat × List Nat)) (I1 : Nat → Nat → Int32), okn n (o :: L) = true → (∀ o', o' ∈ o :: L → Pm n o') → i + (L.length + 1) ≤ 720 → L.length + 2 < f → Rx I I1 x c → Ngt I1 x Iz Jz z t m tn tl → E6 (I1 (x + 113)) (oR o) → RsC I1 x n b →
    ∃ I2 a1 a2, ni_findRow_52 2000 T P x c (x + 12) (x + 101) (nI p) 720 f 1 (nI i) I1 = some (a1, a2, I2) ∧ Rx I I2 x c ∧ RsC I2 x n (mfold (fun o => mmin LT LP n tl p m 0 u (mor1 (Iz (z + 1)) o n)) b (o :: L)) := by
  have hn := h.n6
  have early : ∀ (l : List (List Nat)) (i f : Nat) (b : Option (Nat × List Nat)) (I1 : Nat → Nat → Int32), i < 720 → 0 < f → Rx I I1 x c → Ngt I1 x Iz Jz z t m tn tl → RsC I1 x n b → I1 (x + 108) 1 ≤ I1 (x + 108) 4 → ∃ I2 a1 a2, ni_findRow_52 2000 T P x c (x + 12) (x + 101) (nI p) 720 f 1 (nI i) I1 = some (a1, a2, I2) ∧ Rx I I2 x c ∧ RsC I2 x n (mfold (fun o => mmin LT LP n tl p m 0 u (mor1 (Iz (z + 1)) o n)) b l) := fun l i f b I1 hi hf hx hNg hB hle => by
    obtain ⟨f, rfl⟩ : ∃ f', f = f' + 1 := ⟨f - 1, by omega⟩
    have hm := hNg.2.1
    rw [ni_findRow_52, if_neg (show ¬ (720 : Int32) ≤ nI i from nI_ge (b := 720) (by omega) (by decide)), if_neg (show ¬ (1 : Int32) = 0 by decide), if_pos hle]
    refine ⟨I1, _, _, rfl, hx, ?_⟩
    rw [hNg.2.2.1] at hle
    rcases hB with ⟨hb, h4⟩ | ⟨w, o', hb, hw, h4, h112⟩
    · exfalso
      rw [h4, i32_le, nI_toInt (by omega)] at hle
      have k1 : (-1 : Int32).toInt = -1 := rfl
      omega
    · rw [h4] at hle
      have hwm : m ≤ w := (nI_leI (by omega) (by omega)).mp hle
      rw [hb, mfold_top l (fun o ho => Nat.le_trans (mmin_le m 0 u _) (by omega))]
      exact Or.inr ⟨w, o', rfl, hw, h4, h112⟩
  intro L
  induction L with
  | nil =>
    intro o i f b I1 hok hpm hi hf hx hNg hq hB
    by_cases hle : I1 (x + 108) 1 ≤ I1 (x + 108) 4
    · exact early [o] i f b I1 (by have : ([] : List (List Nat)).length = 0 := rfl; omega) (by omega) hx hNg hB hle
    obtain ⟨f, rfl⟩ : ∃ f', f = f' + 1 := ⟨f - 1, by omega⟩
    obtain ⟨f, rfl⟩ : ∃ f', f = f' + 1 := ⟨f - 1, by have : ([] : List (List Nat)).length = 0 := rfl; omega⟩
    obtain ⟨R, hR⟩ := okn_nil hok hq
    obtain ⟨I2, s1, s2, s3, s4, s5⟩ := step_is (S := I) (g5 := 720) (l7 := nI i) (f := f + 1) hsr h hN hp (hpm o (List.mem_cons_self)) hx hNg hq hB hR (nI_ge (b := 720) (by have : ([] : List (List Nat)).length = 0 := rfl; omega) (by decide)) hle
    rw [s1, ni_findRow_52]
    by_cases c1 : (720 : Int32) ≤ nI i + 1
    · rw [if_pos c1]
      exact ⟨I2, _, _, rfl, s2, s5⟩
    · rw [if_neg c1, if_pos rfl]
      exact ⟨I2, _, _, rfl, s2, s5⟩
  | cons o2 L ih =>
    intro o i f b I1 hok hpm hi hf hx hNg hq hB
    rw [List.length_cons] at hi hf
    by_cases hle : I1 (x + 108) 1 ≤ I1 (x + 108) 4
    · exact early (o :: o2 :: L) i f b I1 (by omega) (by omega) hx hNg hB hle
    obtain ⟨f, rfl⟩ : ∃ f', f = f' + 1 := ⟨f - 1, by omega⟩
    obtain ⟨hok2, R, hR, hR2⟩ := okn_cons hok hq
    obtain ⟨I2, s1, s2, s3, s4, s5⟩ := step_is (S := I) (g5 := 720) (l7 := nI i) (f := f) hsr h hN hp (hpm o (List.mem_cons_self)) hx hNg hq hB hR (nI_ge (b := 720) (by omega) (by decide)) hle
    rw [s1, nI_1]
    exact ih o2 (i + 1) f _ I2 hok2 (fun o' ho => hpm o' (List.mem_cons_of_mem _ ho)) (by omega) (by omega) s2 s3 (by rw [s4]; exact hR2) s5
theorem id_go {a b : Nat} {g : Int32} : ∀ (j k f : Nat) (I : Nat → Nat → Int32), k + j = 6 → j < f → (∀ i, i < k → I (x + 113) i = nI i) → ∃ I1, ni_findRow_3 2000 x c a b g f (nI k) I = some (nI 6, I1) ∧ (∀ i, i < 6 → I1 (x + 113) i = nI i) ∧ ∀ q, q ≠ x + 113 → I1 q = I q := by
  intro j
  induction j with
  | zero =>
    intro k f I hk hf hd
    obtain ⟨f, rfl⟩ : ∃ f', f = f' + 1 := ⟨f - 1, by omega⟩
    obtain rfl : k = 6 := by omega
    refine ⟨I, ?_, hd, fun _ _ => rfl⟩
    rw [ni_findRow_3, if_pos (show (6 : Int32) ≤ nI 6 by decide)]
  | succ j ih =>
    intro k f I hk hf hd
    obtain ⟨f, rfl⟩ : ∃ f', f = f' + 1 := ⟨f - 1, by omega⟩
    rw [ni_findRow_3, if_neg (show ¬ (6 : Int32) ≤ nI k from nI_ge (b := 6) (by omega) (by decide)), chk_nI (show k < 6 by omega) (by decide), nI_cl (show k < 2147483648 by omega), nI_1]
    try dsimp only
    obtain ⟨I1, e1, e2, e3⟩ := ih (k + 1) f (uI I (x + 113) k (nI k)) (by omega) (by omega) (fun i hi => by
      by_cases e : i = k
      · subst e; rw [uI_e]
      · rw [uI_k _ _ _ _ _ e]; exact hd i (by omega))
    exact ⟨I1, e1, e2, fun q hq => by rw [e3 q hq, uI_row _ _ _ _ _ hq]⟩
/-- the class's best row -/
theorem findRow_is (hsr : isSR T P x) (h : InvK T I J P x nn c Iz Jz z N n u tn LT LP v) (hN : N < 600) {t m p : Nat} {tl : Nat → Nat} (hp : p < n) (hNg : Ngt I x Iz Jz z t m tn tl) : ∃ I2, ni_findRow 2000 T I P x c (x + 12) (x + 101) (nI p) = some I2 ∧ Rx I I2 x c ∧ RsC I2 x n (mfold (fun o => mmin LT LP n tl p m 0 u (mor1 (Iz (z + 1)) o n)) none (mor n n [])) := by
  have hcx := h.apx.1
  have hn := h.n6
  have hm := hNg.2.1
  obtain ⟨I8, f1, f2, f3⟩ := id_go (x := x) (c := c) (a := x + 12) (b := x + 101) (g := nI p) 6 0 2000 I (by omega) (by omega) (fun i hi => by omega)
  have f1 : ni_findRow_3 2000 x c (x + 12) (x + 101) (nI p) 2000 0 I = _ := f1
  unfold ni_findRow
  rw [f1, Option.bind_some]
  try dsimp only
  have o9 : ∀ q, q ≠ x + 108 → q ≠ x + 113 → uI I8 (x + 108) 4 (-1) q = I q := fun q a1 a2 => by rw [uI_row _ _ _ _ _ a1, f3 q a2]
  have x9 : Rx I (uI I8 (x + 108) 4 (-1)) x c := ⟨fun q a1 a2 a3 a4 a5 a6 => o9 q (by omega) a3, fun k hk => by rw [uI_k _ _ _ _ _ hk, f3 _ (by omega)]⟩
  have hC9 : CT T (uI I8 (x + 108) 4 (-1)) P c LT := h.cc.2.1.same (fun w hw => by have := h.apx.2 w hw; exact o9 _ (by omega) (by omega))
  obtain ⟨hb, g1, g2⟩ := heeds_is hC9
  rw [g1, Option.bind_some]
  try dsimp only
  have N9 : Ngt (uI I8 (x + 108) 4 (-1)) x Iz Jz z t m tn tl := hNg.fx (by rw [uI_k _ _ _ _ _ (by decide), f3 _ (by omega)]) (o9 _ (by omega) (by omega)) rfl
  have E9 : E6 (uI I8 (x + 108) 4 (-1) (x + 113)) (oR (List.range n)) := fun k hk => by
    rw [uI_row _ _ _ _ _ (by omega), f2 k hk]
    exact (range_oR k hk).symm
  have B9 : RsC (uI I8 (x + 108) 4 (-1)) x n none := Or.inl ⟨rfl, uI_e _ _ _ _⟩
  obtain ⟨L, hL⟩ : ∃ L, mor n n [] = List.range n :: L := by
    have := mor_head n (by omega)
    cases hh : mor n n [] with
    | nil => rw [hh] at this; cases this
    | cons o L =>
      rw [hh] at this
      injection this with this
      exact ⟨L, by rw [this]⟩
  have hok := okn_t n (by omega) (by omega)
  have hpm := mor_pm (n := n) (by omega)
  have hlen := mor_len n (by omega)
  rw [hL] at hok hpm hlen ⊢
  rw [List.length_cons] at hlen
  cases hb with
  | true =>
    rw [if_neg (show ¬ b2 true = 0 by decide)]
    obtain ⟨I2, a1, a2, s1, s2, s3⟩ := all_go2 hsr h hN hp L (List.range n) 0 2000 none (uI I8 (x + 108) 4 (-1)) hok hpm (by omega) (by omega) x9 N9 E9 B9
    have s1 : ni_findRow_52 2000 T P x c (x + 12) (x + 101) (nI p) 720 2000 1 0 (uI I8 (x + 108) 4 (-1)) = _ := s1
    rw [s1]
    exact ⟨I2, rfl, s2, s3⟩
  | false =>
    rw [if_pos (show b2 false = 0 from rfl)]
    have hR : ∃ w R, nxt 2000 (uI I8 (x + 108) 4 (-1) (x + 113)) (nI n) = some (w, R) := by
      cases L with
      | nil =>
        obtain ⟨R, e⟩ := okn_nil hok E9
        exact ⟨0, R, e⟩
      | cons o2 L =>
        obtain ⟨-, R, e, -⟩ := okn_cons hok E9
        exact ⟨1, R, e⟩
    obtain ⟨w, R, hR⟩ := hR
    have hlt : ¬ uI I8 (x + 108) 4 (-1) (x + 108) 1 ≤ uI I8 (x + 108) 4 (-1) (x + 108) 4 := by
      rw [N9.2.2.1, uI_e, i32_le, nI_toInt (by omega)]
      have k1 : (-1 : Int32).toInt = -1 := rfl
      omega
    obtain ⟨I2, s1, s2, s3, s4, s5⟩ := step_is (S := I) (g5 := 1) (l7 := 0) (f := 1999) hsr h hN hp (hpm _ (List.mem_cons_self)) x9 N9 E9 B9 hR (show ¬ (1 : Int32) ≤ 0 by decide) hlt
    have s1 : ni_findRow_52 2000 T P x c (x + 12) (x + 101) (nI p) 1 2000 1 0 (uI I8 (x + 108) 4 (-1)) = _ := s1
    rw [s1, ni_findRow_52, if_pos (show (1 : Int32) ≤ 0 + 1 by decide)]
    refine ⟨I2, rfl, s2, ?_⟩
    rw [mup_n (val := fun o => mmin LT LP n tl p m 0 u (mor1 (Iz (z + 1)) o n)) rfl] at s5
    have hi := g2 rfl
    rw [mfold, mup_n (val := fun o => mmin LT LP n tl p m 0 u (mor1 (Iz (z + 1)) o n)) rfl, mfold_top L (fun o ho => Nat.le_of_eq ?_)]
    · exact s5
    · have p1 := hpm o (List.mem_cons_of_mem _ ho)
      have p0 := hpm _ (List.mem_cons_self)
      refine mmin_ind hn hi m 0 u _ _ (fun k h1 h2 => ?_)
      rw [mor1_o (fun k hk => by have := p1.2.1 k hk; omega) (by omega) n (Nat.le_refl _), mor1_o (fun k hk => by have := p0.2.1 k hk; omega) (by omega) n (Nat.le_refl _)]
def AnsR (I : Nat → Nat → Int32) (x : Nat) (Iz : Nat → Nat → Int32) (Jz : Nat → Nat → Int64) (z : Nat) (t p : Int32) : Prop := ∃ Iz2, r_laysOrder 2000 Iz Jz z t p = some Iz2 ∧ KeepZ Iz Iz2 z ∧ Iz2 z 28 = I (x + 108) 4 ∧ ∀ n', n' ≤ 6 → Iz (z + 1) 1 = nI n' → ∀ k, k < n' → Iz2 (z + 13) k = I (x + 112) k
def Mrow (I : Nat → Nat → Int32) (x : Nat) (Iz : Nat → Nat → Int32) (Jz : Nat → Nat → Int64) (z v : Nat) : Prop := ∃ k, k ≤ v ∧ I (x + 111) 0 = nI k ∧ (k = v → ∀ Iz' Jz', KeepY Iz Iz' z → Jz' (z + 20) = Jz (z + 20) → AnsR I x Iz' Jz' z (I (x + 111) 1) (I (x + 111) 2))
theorem Mrow.keep {I2 Iz2 : Nat → Nat → Int32} {Jz2 : Nat → Nat → Int64} (h : Mrow I x Iz Jz z v) (hx : KMr I I2 x) (hz : KeepY Iz Iz2 z) (hj : Jz2 (z + 20) = Jz (z + 20)) : Mrow I2 x Iz2 Jz2 z v := by
  obtain ⟨k, h1, h2, h3⟩ := h
  obtain ⟨x1, x2, x3⟩ := hx
  refine ⟨k, h1, by rw [x1]; exact h2, fun e Iz' Jz' hk hj' => ?_⟩
  have := h3 e Iz' Jz' (hz.tr hk) (hj'.trans hj)
  unfold AnsR at *
  rw [x1, x2, x3]
  exact this
theorem Mrow.past {I2 Iz2 : Nat → Nat → Int32} {Jz2 : Nat → Nat → Int64} (h : Mrow I x Iz Jz z v) (hx : I2 (x + 111) 0 = I (x + 111) 0) : Mrow I2 x Iz2 Jz2 z (v + 1) := by
  obtain ⟨k, h1, h2, h3⟩ := h
  exact ⟨k, by omega, hx.trans h2, fun e => by omega⟩
theorem RsR.ans {I2 Iz2 : Nat → Nat → Int32} {b : Option (Nat × List Nat)} (hn : n ≤ 6) (h1 : RsC I2 x n b) (h2 : RsR Iz2 z n b) (hz : Iz (z + 1) 1 = nI n) : Iz2 z 28 = I2 (x + 108) 4 ∧ ∀ n', n' ≤ 6 → Iz (z + 1) 1 = nI n' → ∀ k, k < n' → Iz2 (z + 13) k = I2 (x + 112) k ∨ b = none := by
  rcases h1 with ⟨e1, e2⟩ | ⟨w, o, e1, e2, e3, e4⟩
  · rcases h2 with ⟨f1, f2⟩ | ⟨w, o, f1, -⟩
    · exact ⟨by rw [e2, f2], fun _ _ _ _ _ => Or.inr e1⟩
    · rw [e1] at f1; cases f1
  · rcases h2 with ⟨f1, f2⟩ | ⟨w', o', f1, f2, f3, f4⟩
    · rw [e1] at f1; cases f1
    · rw [e1] at f1
      injection f1 with f1
      injection f1 with a1 a2
      subst a1
      subst a2
      refine ⟨by rw [e3, f3], fun n' h6 hz' k hk => Or.inl ?_⟩
      have : n = n' := (nI_eq (by omega) (by omega)).mp (hz.symm.trans hz')
      subst this
      rw [e4 k hk, f4 k hk]
theorem mfold_ne {val : List Nat → Nat} : ∀ (l : List (List Nat)) (y : Nat × List Nat), mfold val (some y) l ≠ none
  | [], y => fun cc => by cases cc
  | o :: t, y => by
    rw [mfold]
    by_cases c : y.1 < val o
    · rw [show mup val (some y) o = some (val o, o) from if_pos c]
      exact mfold_ne t _
    · rw [show mup val (some y) o = some y from if_neg c]
      exact mfold_ne t _
theorem xfindRow_is (hsr : isSR T P x) (h : InvK T I J P x nn c Iz Jz z N n u tn LT LP v) (hM : Mrow I x Iz Jz z v) (hN : N < 600) {t m p : Nat} {tl : Nat → Nat} (hp : p < n) (hNg : Ngt I x Iz Jz z t m tn tl) : ∃ I2, x_findRow 2000 T I P x c (nI t) (nI p) = some I2 ∧ (∀ q, ¬ (x + 101 ≤ q ∧ q ≤ x + 113) → q ≠ c + 5 → q ≠ c + 6 → q ≠ c + 7 → I2 q = I q) ∧ Mrow I2 x Iz Jz z v ∧ ∀ Iz' Jz', KeepY Iz Iz' z → Jz' (z + 20) = Jz (z + 20) → AnsR I2 x Iz' Jz' z (nI t) (nI p) := by
  have hcx := h.apx.1
  have hn := h.n6
  have h9 : I x 9 = nI v := h.v9.1
  have hv : v ≤ N + 1 := h.v9.2
  unfold x_findRow
  rw [h9]
  obtain ⟨I1, e1, e2, m0, m1, m2, m3, m4⟩ := knows_is I (x + 110) (nI v) (nI t) (nI p) 0 0
  obtain ⟨k, k1, k2, k3⟩ := hM
  rcases e1 with ⟨e1, n0, n1, n2, n3, n4⟩ | e1
  · rw [e1, Option.bind_some]
    try dsimp only
    rw [if_neg (show ¬ (1 : Int32) = 0 by decide)]
    have ek : k = v := by
      have n0 : I (x + 111) 0 = nI v := n0
      rw [k2] at n0
      exact (nI_eq (by omega) (by omega)).mp n0
    have hA : ∀ Iz' Jz', KeepY Iz Iz' z → Jz' (z + 20) = Jz (z + 20) → AnsR I1 x Iz' Jz' z (nI t) (nI p) := fun Iz' Jz' hk hj => by
      have := k3 ek Iz' Jz' hk hj
      rw [show I (x + 111) 1 = nI t from n1, show I (x + 111) 2 = nI p from n2] at this
      unfold AnsR at *
      rw [e2 _ (by omega), e2 _ (by omega)]
      exact this
    refine ⟨I1, rfl, fun r a1 a2 a3 a4 => e2 r (by omega), ⟨v, Nat.le_refl _, m0, fun _ Iz' Jz' hk hj => ?_⟩, hA⟩
    rw [show I1 (x + 111) 1 = nI t from m1, show I1 (x + 111) 2 = nI p from m2]
    exact hA Iz' Jz' hk hj
  · rw [e1, Option.bind_some]
    try dsimp only
    rw [if_pos rfl]
    have hX : KeepX I I1 x c := KeepX.of (fun q hq => e2 q (fun cc => hq (by unfold Scr; omega))) (e2 _ (by omega)) (e2 _ (by omega))
    have hI1 : InvK T I1 J P x nn c Iz Jz z N n u tn LT LP v := h.keep hsr hX (fun _ _ => rfl) (fun _ _ _ _ => rfl) KeepY.rf rfl
    have hN1 : Ngt I1 x Iz Jz z t m tn tl := hNg.fx (by rw [e2 _ (by omega)]) (e2 _ (by omega)) rfl
    obtain ⟨I2, w1, w2, w3⟩ := findRow_is hsr hI1 hN hp hN1
    rw [w1, Option.bind_some]
    have hA : ∀ Iz' Jz', KeepY Iz Iz' z → Jz' (z + 20) = Jz (z + 20) → AnsR I2 x Iz' Jz' z (nI t) (nI p) := fun Iz' Jz' hk hj => by
      have hI' : InvK T I1 J P x nn c Iz' Jz' z N n u tn LT LP v := h.keep hsr hX (fun _ _ => rfl) (fun _ _ _ _ => rfl) hk hj
      have hN' : Ngt I1 x Iz' Jz' z t m tn tl := (hN1.fx (I1 := I1) (Iz1 := Iz') rfl rfl hk.2.2).jz hj
      obtain ⟨I2', w1', -, w3'⟩ := findRow_is hsr hI' hN hp hN'
      rw [w1] at w1'
      have e2 : I2 = I2' := by injection w1'
      subst e2
      have hne : mfold (fun o => mmin LT LP n tl p m 0 u (mor1 (Iz' (z + 1)) o n)) none (mor n n []) ≠ none := by
        have := mor_head n (by omega)
        cases hh : mor n n [] with
        | nil => rw [hh] at this; cases this
        | cons o L =>
          rw [mfold]
          exact mfold_ne L _
      obtain ⟨Iz2, l1, l2, l3⟩ := laysOrder_is hsr hI' hN hp hN'
      obtain ⟨y1, y2⟩ := RsR.ans (Iz := Iz') hn w3' l3 hI'.z1
      exact ⟨Iz2, l1, l2, y1, fun n' h6 hz' k hk' => (y2 n' h6 hz' k hk').resolve_right hne⟩
    have e111 : I2 (x + 111) = I1 (x + 111) := w2.1 _ (by omega) (by omega) (by omega) (by omega) (by omega) (by omega)
    refine ⟨I2, rfl, fun r a1 a2 a3 a4 => by rw [w2.1 r (by omega) (by omega) (by omega) a2 a3 a4, e2 r (by omega)], ⟨v, Nat.le_refl _, by rw [e111]; exact m0, fun _ Iz' Jz' hk hj => ?_⟩, hA⟩
    rw [e111, show I1 (x + 111) 1 = nI t from m1, show I1 (x + 111) 2 = nI p from m2]
    exact hA Iz' Jz' hk hj
/-- a question that keeps its answer in the rows of nights -/
def Unr (I I2 : Nat → Nat → Int32) (x c : Nat) (Iz Iz2 : Nat → Nat → Int32) (Jz : Nat → Nat → Int64) (z v : Nat) : Prop := KeepX I I2 x c ∧ KeepZ Iz Iz2 z ∧ KMw I I2 x ∧ KMm I I2 x ∧ KMc I I2 x ∧ Mrow I2 x Iz2 Jz z v
theorem unr_of {I2 Iz2 : Nat → Nat → Int32} (hcx : c = x + 4 ∨ x + 224 ≤ c) (hx : ∀ q, ¬ (x + 101 ≤ q ∧ q ≤ x + 113) → q ≠ c + 5 → q ≠ c + 6 → q ≠ c + 7 → I2 q = I q) (hz : KeepZ Iz Iz2 z) (hM : Mrow I2 x Iz Jz z v) : Unr I I2 x c Iz Iz2 Jz z v := by
  have g : ∀ r, ¬ (x + 101 ≤ r ∧ r ≤ x + 113) → x + 12 ≤ r → r < x + 224 → I2 r = I r := fun r a1 a2 a3 => hx r a1 (by omega) (by omega) (by omega)
  refine ⟨KeepX.of (fun q hq => ?_) (hx _ (by omega) (by omega) (by omega) (by omega)) (hx _ (by omega) (by omega) (by omega) (by omega)), hz, ⟨g _ (by omega) (by omega) (by omega), g _ (by omega) (by omega) (by omega), by rw [g _ (by omega) (by omega) (by omega)]⟩, ⟨g _ (by omega) (by omega) (by omega), g _ (by omega) (by omega) (by omega), by rw [g _ (by omega) (by omega) (by omega)]⟩, g _ (by omega) (by omega) (by omega), hM.keep ⟨rfl, rfl, rfl⟩ hz.y rfl⟩
  unfold Scr at hq
  exact hx q (by omega) (by omega) (by omega) (by omega)
theorem row_read (hsr : isSR T P x) (h : InvS T I J P x nn c Iz Jz z N n u tn LT LP d na v) (hM : Mrow I x Iz Jz z v) {I1 : Nat → Nat → Int32} (r1 : ∀ q, q ≠ x + 108 → q ≠ x + 109 → I1 q = I q) (r2 : ∀ k, k ≠ 1 → I1 (x + 108) k = I (x + 108) k) : InvS T I1 J P x nn c Iz Jz z N n u tn LT LP d na v ∧ Mrow I1 x Iz Jz z v := by
  obtain ⟨kx, km⟩ := Kx108 (c := c) r1 r2
  exact ⟨h.keep hsr kx (fun _ _ => rfl) (fun _ _ _ _ => rfl) KeepZ.rf, hM.keep km.parts.1 KeepY.rf rfl⟩
theorem row_call (hsr : isSR T P x) (h : InvS T I J P x nn c Iz Jz z N n u tn LT LP d na v) (hM : Mrow I x Iz Jz z v) (hN : N < 600) (a b : Int32) : ∃ r I2 Iz2, x_row 2000 T I J P x c a b = some (r, I2) ∧ r_row 2000 Iz Jz z a b = some (r, Iz2) ∧ Unr I I2 x c Iz Iz2 Jz z v := by
  have hcx := h.apx.1
  obtain ⟨w, I1, e1, e2, r1, r2, r3⟩ := readUp_is h a b
  obtain ⟨h1, hM1⟩ := row_read hsr h hM r1 r2
  unfold x_row r_row
  try dsimp only
  rw [e1, e2, Option.bind_some, Option.bind_some]
  try dsimp only
  by_cases hw : w = 0
  · obtain ⟨t, p, m, tl, rfl, rfl, hp, hu, hNg⟩ := r3 hw
    rw [if_pos hw, if_pos hw]
    obtain ⟨I2, f1, f2, f3, f4⟩ := xfindRow_is hsr h1.k hM1 hN hp (hNg.fx (I1 := I1) (Iz1 := Iz) rfl rfl (thr_row (Iz := Iz) (z := z) (by decide)).symm)
    obtain ⟨Iz2, g1, g2, g3, g4⟩ := f4 _ Jz KeepZ.thr.y rfl
    rw [f1, g1, Option.bind_some, Option.bind_some]
    try dsimp only
    rw [g3]
    exact ⟨_, _, _, rfl, rfl, unr_of hcx (fun q a1 a2 a3 a4 => by rw [f2 q a1 a2 a3 a4, r1 q (by omega) (by omega)]) (KeepZ.thr.tr g2) f3⟩
  · rw [if_neg hw, if_neg hw]
    exact ⟨_, _, _, rfl, rfl, unr_of hcx (fun q a1 a2 a3 a4 => r1 q (by omega) (by omega)) KeepZ.thr hM1⟩
theorem rowSpot_call (hsr : isSR T P x) (h : InvS T I J P x nn c Iz Jz z N n u tn LT LP d na v) (hM : Mrow I x Iz Jz z v) (hN : N < 600) (a b i : Int32) : ∃ r I2 Iz2, x_rowSpot 2000 T I J P x c a b i = some (r, I2) ∧ r_rowSpot 2000 Iz Jz z a b i = some (r, Iz2) ∧ Unr I I2 x c Iz Iz2 Jz z v := by
  have hcx := h.apx.1
  have hn := h.n6
  have z1 : uI Iz z 0 0 (z + 1) = Iz (z + 1) := thr_row (by decide)
  obtain ⟨w, I1, e1, e2, r1, r2, r3⟩ := readUp_is h a b
  obtain ⟨h1, hM1⟩ := row_read hsr h hM r1 r2
  unfold x_rowSpot r_rowSpot
  try dsimp only
  rw [e1, e2, Option.bind_some, Option.bind_some]
  try dsimp only
  by_cases hw : w = 0
  · obtain ⟨t, p, m, tl, rfl, rfl, hp, hu, hNg⟩ := r3 hw
    rw [if_pos hw, if_pos hw, show Int32.toNatClampNeg 1 = 1 from rfl, z1, h.z1]
    rcases arg_cases i n (by omega) with hi | ⟨j, hj, rfl⟩
    · rw [noPerson_bad h1.c0 hn hi, within_bad (by omega) hi, if_neg (show ¬ (1 : Int32) = 0 by decide), if_pos rfl]
      exact ⟨_, _, _, rfl, rfl, unr_of hcx (fun q a1 a2 a3 a4 => r1 q (by omega) (by omega)) KeepZ.thr hM1⟩
    · rw [noPerson_ok h1.c0 hn hj, within_ok (by omega) hj, if_pos rfl, if_neg (show ¬ (1 : Int32) = 0 by decide)]
      obtain ⟨I2, f1, f2, f3, f4⟩ := xfindRow_is hsr h1.k hM1 hN hp (hNg.fx (I1 := I1) (Iz1 := Iz) rfl rfl (thr_row (Iz := Iz) (z := z) (by decide)).symm)
      obtain ⟨Iz2, g1, g2, g3, g4⟩ := f4 _ Jz KeepZ.thr.y rfl
      rw [f1, g1, Option.bind_some, Option.bind_some]
      try dsimp only
      rw [chk_nI (show j < 6 by omega) (by decide), chk_nI (show j < 6 by omega) (by decide), nI_cl (show j < 2147483648 by omega), g4 n hn (by rw [z1]; exact h.z1) j hj]
      exact ⟨_, _, _, rfl, rfl, unr_of hcx (fun q a1 a2 a3 a4 => by rw [f2 q a1 a2 a3 a4, r1 q (by omega) (by omega)]) (KeepZ.thr.tr g2) f3⟩
  · rw [if_neg hw, if_neg hw]
    exact ⟨_, _, _, rfl, rfl, unr_of hcx (fun q a1 a2 a3 a4 => r1 q (by omega) (by omega)) KeepZ.thr hM1⟩
end
