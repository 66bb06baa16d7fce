/-! code of the class and of the reference for one expression -/
def SegC (R : Nat → Int32) (m m1 nd : Nat) (φ : Row → Int32) : Prop := m ≤ m1 ∧ (∀ k, m ≤ k → k < m1 → ∃ c, c < 16000 ∧ R k = nI c) ∧ ∀ (C : Nat → Nat) (M : Nat) (f : Row) (s : List Int32), (∀ k, m ≤ k → k < m1 → C k < 16000 ∧ R k = nI (C k)) → m1 ≤ M → s.length + nd ≤ 64 → ∃ j, itC C M f j (m, s) = some (m1, φ f :: s)
def SegR (A : Nat → Int32) (n n1 : Nat) (φ : Row → Int32) : Prop := ∃ cs : List Int32, n + cs.length = n1 ∧ (∀ i, i < cs.length → A (397 + n + i) = cs.getD i 0) ∧ ∀ f s, evR f cs s = some (φ f :: s)
theorem SegC.keep {R R1 : Nat → Int32} {m m1 nd nd1 : Nat} {φ : Row → Int32} (h : SegC R m m1 nd φ) (hR : ∀ k, m ≤ k → k < m1 → R1 k = R k) (hn : nd ≤ nd1) : SegC R1 m m1 nd1 φ := by
  obtain ⟨h1, h2, h3⟩ := h
  refine ⟨h1, fun k a b => by rw [hR k a b]; exact h2 k a b, fun C M f s hC hM hs => h3 C M f s (fun k a b => by rw [← hR k a b]; exact hC k a b) hM (by omega)⟩
theorem SegR.keep {A A1 : Nat → Int32} {n n1 : Nat} {φ : Row → Int32} (h : SegR A n n1 φ) (hA : ∀ k, n ≤ k → k < n1 → A1 (397 + k) = A (397 + k)) : SegR A1 n n1 φ := by
  obtain ⟨cs, h1, h2, h3⟩ := h
  refine ⟨cs, h1, fun i hi => ?_, h3⟩
  rw [show 397 + n + i = 397 + (n + i) by omega, hA (n + i) (by omega) (by omega), show 397 + (n + i) = 397 + n + i by omega]
  exact h2 i hi
theorem itC_one {C : Nat → Nat} {M : Nat} {f : Row} {x y : Nat × List Int32} (h : stC C M f x = some y) : itC C M f 1 x = some y := by
  show (stC C M f x).bind (itC C M f 0) = some y
  rw [h]
  rfl
theorem itC_app {C : Nat → Nat} {M : Nat} {f : Row} {x y w : Nat × List Int32} (h : ∃ j, itC C M f j x = some y) (h2 : ∃ j, itC C M f j y = some w) : ∃ j, itC C M f j x = some w := by
  obtain ⟨j, h⟩ := h
  obtain ⟨k, h2⟩ := h2
  exact ⟨j + k, itC_add j k x y w h h2⟩
theorem code_at {R : Nat → Int32} {C : Nat → Nat} {k c : Nat} (h : C k < 16000 ∧ R k = nI (C k)) (hc : c < 16000) (hR : R k = nI c) : C k = c := by
  have := h.2
  rw [hR] at this
  exact ((nI_eq (by omega) (by omega)).mp this).symm
theorem segC_num {R : Nat → Int32} {m v nd : Nat} (h : R m = nI (16 * v + 0)) (hv : v < 1000) (hn : 1 ≤ nd) : SegC R m (m + 1) nd (fun _ => nI v) := by
  refine ⟨by omega, fun k a b => ⟨16 * v + 0, by omega, by rw [show k = m by omega]; exact h⟩, fun C M f s hC hM hs => ⟨1, itC_one ?_⟩⟩
  have hc := code_at (hC m (by omega) (by omega)) (c := 16 * v + 0) (by omega) h
  unfold stC
  rw [if_neg (by show ¬ M ≤ m; omega)]
  try dsimp only
  rw [hc, if_pos (by omega), if_pos (by omega), show (16 * v + 0) / 16 = v by omega]
theorem segC_word {R : Nat → Int32} {m v nd : Nat} (h : R m = nI (16 * v + 1)) (hv : v < 7) (hn : 1 ≤ nd) : SegC R m (m + 1) nd (fun f => f v) := by
  refine ⟨by omega, fun k a b => ⟨16 * v + 1, by omega, by rw [show k = m by omega]; exact h⟩, fun C M f s hC hM hs => ⟨1, itC_one ?_⟩⟩
  have hc := code_at (hC m (by omega) (by omega)) (c := 16 * v + 1) (by omega) h
  unfold stC
  rw [if_neg (by show ¬ M ≤ m; omega)]
  try dsimp only
  rw [hc, if_neg (by omega), if_pos (by omega), if_pos ⟨by omega, by omega⟩, show (16 * v + 1) / 16 = v by omega]
theorem segC_bin {R : Nat → Int32} {m m1 m2 op n1 n2 nd : Nat} {φ ψ : Row → Int32} (h1 : SegC R m m1 n1 φ) (h2 : SegC R m1 m2 n2 ψ) (h : R m2 = nI (16 * 0 + op)) (ho : 2 ≤ op ∧ op ≤ 9) (hn1 : n1 ≤ nd) (hn2 : n2 + 1 ≤ nd) : SegC R m (m2 + 1) nd (fun f => w_join (nI op) (φ f) (ψ f)) := by
  obtain ⟨a1, a2, a3⟩ := h1
  obtain ⟨b1, b2', b3⟩ := h2
  refine ⟨by omega, fun k c d => ?_, fun C M f s hC hM hs => ?_⟩
  · by_cases e1 : k < m1
    · exact a2 k c e1
    by_cases e2 : k < m2
    · exact b2' k (by omega) e2
    · rw [show k = m2 by omega]
      exact ⟨16 * 0 + op, by omega, h⟩
  · have hc := code_at (hC m2 (by omega) (by omega)) (c := 16 * 0 + op) (by omega) h
    refine itC_app (itC_app (a3 C M f s (fun k c d => hC k c (by omega)) (by omega) (by omega)) (b3 C M f (φ f :: s) (fun k c d => hC k (by omega) (by omega)) (by omega) (by show s.length + 1 + n2 ≤ 64; omega))) ⟨1, itC_one ?_⟩
    unfold stC
    rw [if_neg (by show ¬ M ≤ m2; omega)]
    try dsimp only
    rw [hc, if_neg (by omega), if_neg (by omega), if_pos (by omega), show (16 * 0 + op) % 16 = op by omega]
theorem segC_not {R : Nat → Int32} {m m1 nd : Nat} {φ : Row → Int32} (h1 : SegC R m m1 nd φ) (h : R m1 = nI (16 * 0 + 10)) : SegC R m (m1 + 1) nd (fun f => if φ f = 0 then 1 else 0) := by
  obtain ⟨a1, a2, a3⟩ := h1
  refine ⟨by omega, fun k c d => ?_, fun C M f s hC hM hs => ?_⟩
  · by_cases e1 : k < m1
    · exact a2 k c e1
    · rw [show k = m1 by omega]
      exact ⟨16 * 0 + 10, by omega, h⟩
  · have hc := code_at (hC m1 (by omega) (by omega)) (c := 16 * 0 + 10) (by omega) h
    refine itC_app (a3 C M f s (fun k c d => hC k c (by omega)) (by omega) (by omega)) ⟨1, itC_one ?_⟩
    unfold stC
    rw [if_neg (by show ¬ M ≤ m1; omega)]
    try dsimp only
    rw [hc, if_neg (by omega), if_neg (by omega), if_neg (by omega), if_neg (by omega), if_pos (by omega)]
theorem segC_if {R : Nat → Int32} {m m1 m2 m4 n1 n2 n3 nd : Nat} {β φ ψ : Row → Int32} (h1 : SegC R m m1 n1 β) (h2 : SegC R (m1 + 1) m2 n2 φ) (h3 : SegC R (m2 + 1) m4 n3 ψ) (ha : R m1 = nI (16 * (m2 + 1) + 11)) (hb : R m2 = nI (16 * m4 + 12)) (hm : m4 ≤ 900) (hn1 : n1 ≤ nd) (hn2 : n2 ≤ nd) (hn3 : n3 ≤ nd) : SegC R m m4 nd (fun f => if β f = 0 then ψ f else φ f) := by
  obtain ⟨a1, a2, a3⟩ := h1
  obtain ⟨b1, b2', b3⟩ := h2
  obtain ⟨c1, c2, c3⟩ := h3
  refine ⟨by omega, fun k c d => ?_, fun C M f s hC hM hs => ?_⟩
  · by_cases e1 : k < m1
    · exact a2 k c e1
    by_cases e2 : k = m1
    · rw [e2]
      exact ⟨_, by omega, ha⟩
    by_cases e3 : k < m2
    · exact b2' k (by omega) e3
    by_cases e4 : k = m2
    · rw [e4]
      exact ⟨_, by omega, hb⟩
    · exact c2 k (by omega) d
  · have hc := code_at (hC m1 (by omega) (by omega)) (c := 16 * (m2 + 1) + 11) (by omega) ha
    have hd := code_at (hC m2 (by omega) (by omega)) (c := 16 * m4 + 12) (by omega) hb
    refine itC_app (a3 C M f s (fun k c d => hC k c (by omega)) (by omega) (by omega)) ?_
    by_cases e : β f = 0
    · refine itC_app (y := (m2 + 1, s)) ⟨1, itC_one ?_⟩ ?_
      · unfold stC
        rw [if_neg (by show ¬ M ≤ m1; omega)]
        try dsimp only
        rw [hc, if_neg (by omega), if_neg (by omega), if_neg (by omega), if_neg (by omega), if_neg (by omega), if_pos e, show (16 * (m2 + 1) + 11) / 16 = m2 + 1 by omega, if_pos (by omega)]
      · show ∃ j, itC C M f j (m2 + 1, s) = some (m4, (if β f = 0 then ψ f else φ f) :: s)
        rw [if_pos e]
        exact c3 C M f s (fun k c d => hC k (by omega) (by omega)) (by omega) (by omega)
    · refine itC_app (y := (m1 + 1, s)) ⟨1, itC_one ?_⟩ ?_
      · unfold stC
        rw [if_neg (by show ¬ M ≤ m1; omega)]
        try dsimp only
        rw [hc, if_neg (by omega), if_neg (by omega), if_neg (by omega), if_neg (by omega), if_neg (by omega), if_neg e]
      · show ∃ j, itC C M f j (m1 + 1, s) = some (m4, (if β f = 0 then ψ f else φ f) :: s)
        rw [if_neg e]
        refine itC_app (b3 C M f s (fun k c d => hC k (by omega) (by omega)) (by omega) (by omega)) ⟨1, itC_one ?_⟩
        unfold stC
        rw [if_neg (by show ¬ M ≤ m2; omega)]
        try dsimp only
        rw [hd, if_neg (by omega), if_neg (by omega), if_neg (by omega), if_pos (by omega), show (16 * m4 + 12) / 16 = m4 by omega, if_pos (by omega)]
/-! the reference -/
theorem evR_app {f : Row} : ∀ (cs ds s : List Int32), evR f (cs ++ ds) s = (evR f cs s).bind (evR f ds)
  | [], _, _ => rfl
  | c :: cs, ds, s => by
    show (stR f c s).bind (evR f (cs ++ ds)) = ((stR f c s).bind (evR f cs)).bind (evR f ds)
    cases stR f c s with
    | none => rfl
    | some y => exact evR_app cs ds y
theorem segR_one {A : Nat → Int32} {n : Nat} {c : Int32} {φ : Row → Int32} (h : A (397 + n) = c) (hc : ∀ f s, stR f c s = some (φ f :: s)) : SegR A n (n + 1) φ := by
  refine ⟨[c], rfl, fun i hi => ?_, fun f s => ?_⟩
  · obtain rfl : i = 0 := by have : [c].length = 1 := rfl; omega
    exact h
  · show (stR f c s).bind (evR f []) = _
    rw [hc]
    rfl
theorem at_app {A : Nat → Int32} {n : Nat} {cs ds : List Int32} (h1 : ∀ i, i < cs.length → A (397 + n + i) = cs.getD i 0) (h2 : ∀ i, i < ds.length → A (397 + (n + cs.length) + i) = ds.getD i 0) : ∀ i, i < (cs ++ ds).length → A (397 + n + i) = (cs ++ ds).getD i 0 := by
  intro i hi
  rw [List.length_append] at hi
  rw [List.getD_eq_getElem?_getD]
  by_cases c : i < cs.length
  · rw [List.getElem?_append_left c, h1 i c, List.getD_eq_getElem?_getD]
  · rw [List.getElem?_append_right (by omega), ← List.getD_eq_getElem?_getD, ← h2 (i - cs.length) (by omega), show 397 + (n + cs.length) + (i - cs.length) = 397 + n + i by omega]
theorem segR_bin {A : Nat → Int32} {n n1 n2 : Nat} {c : Int32} {φ ψ : Row → Int32} (h1 : SegR A n n1 φ) (h2 : SegR A n1 n2 ψ) (h : A (397 + n2) = c) (hc : ∀ f s a b, stR f c (b :: a :: s) = some (r_between c a b :: s)) : SegR A n (n2 + 1) (fun f => r_between c (φ f) (ψ f)) := by
  obtain ⟨cs, a1, a2, a3⟩ := h1
  obtain ⟨ds, b1, b2', b3⟩ := h2
  subst a1
  refine ⟨cs ++ (ds ++ [c]), by rw [List.length_append, List.length_append]; show n + (cs.length + (ds.length + 1)) = n2 + 1; omega, at_app a2 (at_app b2' (fun i hi => ?_)), fun f s => ?_⟩
  · obtain rfl : i = 0 := by have : [c].length = 1 := rfl; omega
    rw [b1]
    exact h
  · rw [evR_app, a3, Option.bind_some, evR_app, b3, Option.bind_some]
    show (stR f c _).bind (evR f []) = _
    rw [hc]
    rfl
theorem segR_not {A : Nat → Int32} {n n1 : Nat} {φ : Row → Int32} (h1 : SegR A n n1 φ) (h : A (397 + n1) = 3006) : SegR A n (n1 + 1) (fun f => 1 - φ f) := by
  obtain ⟨cs, a1, a2, a3⟩ := h1
  subst a1
  refine ⟨cs ++ [3006], by rw [List.length_append]; rfl, at_app a2 (fun i hi => ?_), fun f s => ?_⟩
  · obtain rfl : i = 0 := by have : [(3006 : Int32)].length = 1 := rfl; omega
    exact h
  · rw [evR_app, a3, Option.bind_some]
    show (stR f 3006 _).bind (evR f []) = _
    unfold stR
    rw [if_pos (by decide), if_pos rfl]
    rfl
theorem segR_if {A : Nat → Int32} {n n1 n2 n3 : Nat} {β φ ψ : Row → Int32} (h1 : SegR A n n1 β) (h2 : SegR A n1 n2 φ) (h3 : SegR A n2 n3 ψ) (h : A (397 + n3) = 3009) : SegR A n (n3 + 1) (fun f => if β f = 1 then φ f else ψ f) := by
  obtain ⟨cs, a1, a2, a3⟩ := h1
  obtain ⟨ds, b1, b2', b3⟩ := h2
  obtain ⟨es, c1, c2, c3⟩ := h3
  subst a1
  subst b1
  refine ⟨cs ++ (ds ++ (es ++ [3009])), by rw [List.length_append, List.length_append, List.length_append]; show n + (cs.length + (ds.length + (es.length + 1))) = n3 + 1; omega, at_app a2 (at_app b2' (at_app c2 (fun i hi => ?_))), fun f s => ?_⟩
  · obtain rfl : i = 0 := by have : [(3009 : Int32)].length = 1 := rfl; omega
    rw [c1]
    exact h
  · rw [evR_app, a3, Option.bind_some, evR_app, b3, Option.bind_some, evR_app, c3, Option.bind_some]
    show (stR f 3009 _).bind (evR f []) = _
    unfold stR
    rw [if_pos (by decide), if_neg (by decide), if_pos rfl]
    rfl
theorem stR_bin {c : Int32} (h : 3000 ≤ c) (h6 : c ≠ 3006) (h9 : c ≠ 3009) (f : Row) (s : List Int32) (a b : Int32) : stR f c (b :: a :: s) = some (r_between c a b :: s) := by
  unfold stR
  rw [if_pos h, if_neg h6, if_neg h9]
theorem jb_2 (a b : Int32) : w_join 2 a b = r_between 3000 a b := by
  unfold w_join r_between
  rw [if_pos rfl, if_neg (show ¬ (3000 : Int32) = 3003 by decide), if_neg (show ¬ (3000 : Int32) = 3004 by decide), if_neg (show ¬ (3000 : Int32) = 3005 by decide), if_neg (show ¬ (3000 : Int32) = 3007 by decide), if_neg (show ¬ (3000 : Int32) = 3008 by decide), if_pos rfl]
  try dsimp only
  rw [show Int64.toInt32 (-1000000) = -1000000 by decide, show Int64.toInt32 1000000 = 1000000 by decide]
theorem jb_3 (a b : Int32) : w_join 3 a b = r_between 3001 a b := by
  unfold w_join r_between
  rw [if_neg (show ¬ (3 : Int32) = 2 by decide), if_pos rfl, if_neg (show ¬ (3001 : Int32) = 3003 by decide), if_neg (show ¬ (3001 : Int32) = 3004 by decide), if_neg (show ¬ (3001 : Int32) = 3005 by decide), if_neg (show ¬ (3001 : Int32) = 3007 by decide), if_neg (show ¬ (3001 : Int32) = 3008 by decide), if_neg (show ¬ (3001 : Int32) = 3000 by decide), if_pos rfl]
  try dsimp only
  rw [show Int64.toInt32 (-1000000) = -1000000 by decide, show Int64.toInt32 1000000 = 1000000 by decide]
theorem jb_4 (a b : Int32) : w_join 4 a b = r_between 3002 a b := by
  unfold w_join r_between
  rw [if_neg (show ¬ (4 : Int32) = 2 by decide), if_neg (show ¬ (4 : Int32) = 3 by decide), if_pos rfl, if_neg (show ¬ (3002 : Int32) = 3003 by decide), if_neg (show ¬ (3002 : Int32) = 3004 by decide), if_neg (show ¬ (3002 : Int32) = 3005 by decide), if_neg (show ¬ (3002 : Int32) = 3007 by decide), if_neg (show ¬ (3002 : Int32) = 3008 by decide), if_neg (show ¬ (3002 : Int32) = 3000 by decide), if_neg (show ¬ (3002 : Int32) = 3001 by decide)]
  try dsimp only
  rw [show Int64.toInt32 (-1000000) = -1000000 by decide, show Int64.toInt32 1000000 = 1000000 by decide]
theorem jb_5 (a b : Int32) : w_join 5 a b = r_between 3003 a b := by
  unfold w_join r_between
  rw [if_neg (show ¬ (5 : Int32) = 2 by decide), if_neg (show ¬ (5 : Int32) = 3 by decide), if_neg (show ¬ (5 : Int32) = 4 by decide), if_pos rfl, if_pos rfl]
theorem jb_6 (a b : Int32) : w_join 6 a b = r_between 3004 a b := by
  unfold w_join r_between
  rw [if_neg (show ¬ (6 : Int32) = 2 by decide), if_neg (show ¬ (6 : Int32) = 3 by decide), if_neg (show ¬ (6 : Int32) = 4 by decide), if_neg (show ¬ (6 : Int32) = 5 by decide), if_pos rfl, if_neg (show ¬ (3004 : Int32) = 3003 by decide), if_pos rfl]
theorem jb_7 (a b : Int32) : w_join 7 a b = r_between 3005 a b := by
  unfold w_join r_between
  rw [if_neg (show ¬ (7 : Int32) = 2 by decide), if_neg (show ¬ (7 : Int32) = 3 by decide), if_neg (show ¬ (7 : Int32) = 4 by decide), if_neg (show ¬ (7 : Int32) = 5 by decide), if_neg (show ¬ (7 : Int32) = 6 by decide), if_pos rfl, if_neg (show ¬ (3005 : Int32) = 3003 by decide), if_neg (show ¬ (3005 : Int32) = 3004 by decide), if_pos rfl]
theorem jb_8 (a b : Int32) : w_join 8 a b = r_between 3007 a b := by
  unfold w_join r_between
  rw [if_neg (show ¬ (8 : Int32) = 2 by decide), if_neg (show ¬ (8 : Int32) = 3 by decide), if_neg (show ¬ (8 : Int32) = 4 by decide), if_neg (show ¬ (8 : Int32) = 5 by decide), if_neg (show ¬ (8 : Int32) = 6 by decide), if_neg (show ¬ (8 : Int32) = 7 by decide), if_pos rfl, if_neg (show ¬ (3007 : Int32) = 3003 by decide), if_neg (show ¬ (3007 : Int32) = 3004 by decide), if_neg (show ¬ (3007 : Int32) = 3005 by decide), if_pos rfl]
theorem jb_9 (a b : Int32) : w_join 9 a b = r_between 3008 a b := by
  unfold w_join r_between
  rw [if_neg (show ¬ (9 : Int32) = 2 by decide), if_neg (show ¬ (9 : Int32) = 3 by decide), if_neg (show ¬ (9 : Int32) = 4 by decide), if_neg (show ¬ (9 : Int32) = 5 by decide), if_neg (show ¬ (9 : Int32) = 6 by decide), if_neg (show ¬ (9 : Int32) = 7 by decide), if_neg (show ¬ (9 : Int32) = 8 by decide), if_neg (show ¬ (3008 : Int32) = 3003 by decide), if_neg (show ¬ (3008 : Int32) = 3004 by decide), if_neg (show ¬ (3008 : Int32) = 3005 by decide), if_neg (show ¬ (3008 : Int32) = 3007 by decide), if_pos rfl]
