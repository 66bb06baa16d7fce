/-! rows: the next order, as a function of the row of an order -/
def nx4 (R : Row) : Nat → Int32 → Option Int32
  | 0, _ => none
  | k + 1, l2 => if l2 < 0 then (some l2) else (chk l2 6 (chk (l2 + 1) 6 (if (R (Int32.toNatClampNeg l2)) ≤ (R (Int32.toNatClampNeg (l2 + 1))) then (some l2) else (nx4 R k (l2 + (-1))))))
def nx41 (R : Row) (g2 : Int32) : Nat → Int32 → Option Int32
  | 0, _ => none
  | k + 1, l3 => if l3 ≤ g2 then (some l3) else (chk l3 6 (chk g2 6 (if (R (Int32.toNatClampNeg g2)) ≤ (R (Int32.toNatClampNeg l3)) then (some l3) else (nx41 R g2 k (l3 + (-1))))))
def nxs (R : Row) (v1 v2 : Int32) : Option Row := chk v1 6 (chk v2 6 (some (upd (upd R (Int32.toNatClampNeg v1) (R (Int32.toNatClampNeg v2))) (Int32.toNatClampNeg v2) (R (Int32.toNatClampNeg v1)))))
def nx83 : Nat → Int32 → Int32 → Row → Option Row
  | 0, _, _, _ => none
  | k + 1, l4, l5, R => if l5 ≤ l4 then some R else ((nxs R l4 l5).bind (fun R2 => nx83 k (l4 + 1) (l5 + (-1)) R2))
def nxt (F : Nat) (R : Row) (v1 : Int32) : Option (Int32 × Row) := (nx4 R F (v1 - 2)).bind (fun m9 => if 0 ≤ m9 then (nx41 R m9 F (v1 - 1)).bind (fun m19 => (nxs R m9 m19).bind (fun R2 => (nx83 F (m9 + 1) (v1 - 1) R2).bind (fun R3 => some (1, R3)))) else some (0, R))
def sR (I : Nat → Nat → Int32) (a : Nat) (R : Row) : Nat → Nat → Int32 := fun q => if q = a then R else I q
theorem sR_e {I : Nat → Nat → Int32} {a : Nat} {R : Row} : sR I a R a = R := if_pos rfl
theorem sR_o {I : Nat → Nat → Int32} {a q : Nat} {R : Row} (h : q ≠ a) : sR I a R q = I q := if_neg h
theorem sR_s {I : Nat → Nat → Int32} {a : Nat} {R R2 : Row} : sR (sR I a R) a R2 = sR I a R2 := by
  funext q
  unfold sR
  by_cases h : q = a
  · rw [if_pos h, if_pos h]
  · rw [if_neg h, if_neg h, if_neg h]
theorem sR_i {I : Nat → Nat → Int32} {a : Nat} : sR I a (I a) = I := by
  funext q
  unfold sR
  by_cases h : q = a
  · rw [if_pos h, h]
  · rw [if_neg h]
theorem uI_sR {I : Nat → Nat → Int32} {a k : Nat} {v : Int32} : uI I a k v = sR I a (upd (I a) k v) := by
  funext q
  unfold sR
  by_cases h : q = a
  · rw [if_pos h, h, uI_s]
  · rw [if_neg h, uI_row _ _ _ _ _ h]
theorem swap_loc (I : Nat → Nat → Int32) (x : Nat) (v1 v2 : Int32) : ni_swapInOrder I x v1 v2 = (nxs (I (x + 113)) v1 v2).bind (fun R => some (sR I (x + 113) R)) := by
  unfold ni_swapInOrder nxs chk
  by_cases h1 : v1 < 0 ∨ 6 ≤ Int32.toNatClampNeg v1
  · rw [if_pos h1, if_pos h1]
    rfl
  · rw [if_neg h1, if_neg h1]
    try dsimp only
    by_cases h2 : v2 < 0 ∨ 6 ≤ Int32.toNatClampNeg v2
    · rw [if_pos h2, if_pos h2]
      rfl
    · rw [if_neg h2, if_neg h2, Option.bind_some, uI_sR, uI_sR, sR_e, sR_s]
theorem n4_loc (F : Nat) (I : Nat → Nat → Int32) (x : Nat) (g1 : Int32) : ∀ (f : Nat) (l : Int32), ni_goToNextOrder_4 F I x g1 f l = nx4 (I (x + 113)) f l
  | 0, l => rfl
  | f + 1, l => by rw [ni_goToNextOrder_4, nx4, n4_loc F I x g1 f]
theorem n41_loc (F : Nat) (I : Nat → Nat → Int32) (x : Nat) (g1 g2 : Int32) : ∀ (f : Nat) (l : Int32), ni_goToNextOrder_41 F I x g1 g2 f l = nx41 (I (x + 113)) g2 f l
  | 0, l => rfl
  | f + 1, l => by rw [ni_goToNextOrder_41, nx41, n41_loc F I x g1 g2 f]
theorem n83_loc (F : Nat) (x : Nat) (g1 g2 g3 : Int32) : ∀ (f : Nat) (l4 l5 : Int32) (I : Nat → Nat → Int32), (∃ a b, ni_goToNextOrder_83 F x g1 g2 g3 f l4 l5 I = (nx83 f l4 l5 (I (x + 113))).bind (fun R => some (a, b, sR I (x + 113) R)))
  | 0, l4, l5, I => ⟨0, 0, rfl⟩
  | f + 1, l4, l5, I => by
    rw [ni_goToNextOrder_83, nx83]
    by_cases h : l5 ≤ l4
    · rw [if_pos h, if_pos h]
      exact ⟨l4, l5, by rw [Option.bind_some, sR_i]⟩
    · rw [if_neg h, if_neg h, swap_loc]
      cases nxs (I (x + 113)) l4 l5 with
      | none => exact ⟨0, 0, rfl⟩
      | some R =>
        obtain ⟨a, b, e⟩ := n83_loc F x g1 g2 g3 f (l4 + 1) (l5 + (-1)) (sR I (x + 113) R)
        refine ⟨a, b, ?_⟩
        rw [Option.bind_some, Option.bind_some, Option.bind_some]
        try dsimp only
        rw [e, sR_e]
        cases nx83 f (l4 + 1) (l5 + -1) R with
        | none => rfl
        | some R2 => rw [Option.bind_some, Option.bind_some, sR_s]
theorem next_loc (F : Nat) (I : Nat → Nat → Int32) (x : Nat) (v1 : Int32) : ni_goToNextOrder F I x v1 = (nxt F (I (x + 113)) v1).bind (fun y => some (y.1, sR I (x + 113) y.2)) := by
  unfold ni_goToNextOrder nxt
  try dsimp only
  rw [n4_loc]
  cases nx4 (I (x + 113)) F (v1 - 2) with
  | none => rfl
  | some m9 =>
    rw [Option.bind_some, Option.bind_some]
    try dsimp only
    by_cases h : 0 ≤ m9
    · rw [if_pos h, if_pos h, n41_loc]
      cases nx41 (I (x + 113)) m9 F (v1 - 1) with
      | none => rfl
      | some m19 =>
        rw [Option.bind_some, Option.bind_some]
        try dsimp only
        rw [swap_loc]
        cases nxs (I (x + 113)) m9 m19 with
        | none => rfl
        | some R =>
          rw [Option.bind_some, Option.bind_some, Option.bind_some]
          try dsimp only
          obtain ⟨a, b, e⟩ := n83_loc F x v1 m9 m19 F (m9 + 1) (v1 - 1) (sR I (x + 113) R)
          rw [e, sR_e]
          cases nx83 F (m9 + 1) (v1 - 1) R with
          | none => rfl
          | some R2 =>
            rw [Option.bind_some, Option.bind_some, Option.bind_some, Option.bind_some]
            try dsimp only
            rw [sR_s]
    · rw [if_neg h, if_neg h, Option.bind_some, sR_i]
/-- all orders of n, the first first -/
def mol (f : Nat → List (List Nat)) : Nat → Nat → List (List Nat)
  | 0, _ => []
  | j + 1, t => f t ++ mol f j (t + 1)
def mor (n : Nat) : Nat → List Nat → List (List Nat)
  | 0, pre => [pre]
  | j + 1, pre => mol (fun q => if pre.contains q then [] else mor n j (pre ++ [q])) n 0
def oR (o : List Nat) : Row := fun k => nI (if k < o.length then o.getD k 0 else k)
def eq6 (R : Row) (o : List Nat) : Bool := decide (R 0 = oR o 0) && decide (R 1 = oR o 1) && decide (R 2 = oR o 2) && decide (R 3 = oR o 3) && decide (R 4 = oR o 4) && decide (R 5 = oR o 5)
def okn (n : Nat) : List (List Nat) → Bool
  | [] => true
  | o :: t => (match t with
    | [] => (match nxt 2000 (oR o) (nI n) with
      | some (w, _) => decide (w = 0)
      | none => false)
    | o2 :: _ => (match nxt 2000 (oR o) (nI n) with
      | some (w, R) => decide (w = 1) && eq6 R o2
      | none => false)) && okn n t
theorem okn_1 : okn 1 (mor 1 1 []) = true := by decide +kernel
theorem okn_2 : okn 2 (mor 2 2 []) = true := by decide +kernel
theorem okn_3 : okn 3 (mor 3 3 []) = true := by decide +kernel
theorem okn_4 : okn 4 (mor 4 4 []) = true := by decide +kernel
theorem okn_5 : okn 5 (mor 5 5 []) = true := by decide +kernel
theorem okn_6 : okn 6 (mor 6 6 []) = true := by decide +kernel
def fine (n : Nat) (o : List Nat) : Bool := (o.length == n) && (List.range n).all (fun i => decide (o.getD i 0 < n)) && (List.range n).all (fun i => (List.range n).all (fun j => decide (i = j) || !decide (o.getD i 0 = o.getD j 0))) && (List.range n).all (fun q => (List.range n).any (fun k => decide (o.getD k 0 = q)))
theorem fine_t : ∀ n, n < 7 → (mor n n []).all (fine n) = true := by decide +kernel
theorem mor_len : ∀ n, n < 7 → (mor n n []).length ≤ 720 := by decide +kernel
theorem mor_head : ∀ n, n < 7 → (mor n n []).head? = some (List.range n) := by decide +kernel
/-- an order of n -/
def Pm (n : Nat) (o : List Nat) : Prop := o.length = n ∧ (∀ k, k < n → o.getD k 0 < n) ∧ (∀ i, i < n → ∀ j, j < n → o.getD i 0 = o.getD j 0 → i = j) ∧ ∀ p, p < n → ∃ k, k < n ∧ o.getD k 0 = p
theorem fine_pm {n : Nat} {o : List Nat} (h : fine n o = true) : Pm n o := by
  unfold fine at h
  rw [Bool.and_eq_true, Bool.and_eq_true, Bool.and_eq_true, List.all_eq_true, List.all_eq_true, List.all_eq_true] at h
  obtain ⟨⟨⟨h1, h2⟩, h3⟩, h4⟩ := h
  refine ⟨by simpa using h1, fun k hk => by simpa using h2 k (List.mem_range.mpr hk), fun i hi j hj e => ?_, fun p hp => ?_⟩
  · have := h3 i (List.mem_range.mpr hi)
    rw [List.all_eq_true] at this
    have := this j (List.mem_range.mpr hj)
    rw [Bool.or_eq_true] at this
    rcases this with h | h
    · exact of_decide_eq_true h
    · rw [decide_eq_true e] at h
      cases h
  · have := h4 p (List.mem_range.mpr hp)
    rw [List.any_eq_true] at this
    obtain ⟨k, hk, e⟩ := this
    exact ⟨k, List.mem_range.mp hk, of_decide_eq_true e⟩
theorem mor_pm {n : Nat} (hn : n < 7) : ∀ o, o ∈ mor n n [] → Pm n o := fun o ho => fine_pm (List.all_eq_true.mp (fine_t n hn) o ho)
/-- only the first six of a row count -/
def E6 (R R' : Row) : Prop := ∀ k, k < 6 → R k = R' k
theorem chk_c {α : Type} {v : Int32} {a b : Option α} (h : Int32.toNatClampNeg v < 6 → a = b) : chk v 6 a = chk v 6 b := by
  unfold chk
  by_cases c : v < 0 ∨ 6 ≤ Int32.toNatClampNeg v
  · rw [if_pos c, if_pos c]
  · rw [if_neg c, if_neg c]
    exact h (by omega)
theorem nx4_c {R R' : Row} (h : E6 R R') : ∀ (f : Nat) (l : Int32), nx4 R f l = nx4 R' f l
  | 0, l => rfl
  | f + 1, l => by
    rw [nx4, nx4]
    split
    · rfl
    · refine chk_c (fun h1 => chk_c (fun h2 => ?_))
      rw [h _ h1, h _ h2, nx4_c h f]
theorem nx41_c {R R' : Row} (h : E6 R R') (g : Int32) : ∀ (f : Nat) (l : Int32), nx41 R g f l = nx41 R' g f l
  | 0, l => rfl
  | f + 1, l => by
    rw [nx41, nx41]
    split
    · rfl
    · refine chk_c (fun h1 => chk_c (fun h2 => ?_))
      rw [h _ h1, h _ h2, nx41_c h g f]
def E6o (a b : Option Row) : Prop := (a = none ∧ b = none) ∨ ∃ R R', a = some R ∧ b = some R' ∧ E6 R R'
theorem nxs_c {R R' : Row} (h : E6 R R') (v w : Int32) : E6o (nxs R v w) (nxs R' v w) := by
  unfold nxs chk
  by_cases c : v < 0 ∨ 6 ≤ Int32.toNatClampNeg v
  · rw [if_pos c, if_pos c]
    exact Or.inl ⟨rfl, rfl⟩
  · rw [if_neg c, if_neg c]
    by_cases c2 : w < 0 ∨ 6 ≤ Int32.toNatClampNeg w
    · rw [if_pos c2, if_pos c2]
      exact Or.inl ⟨rfl, rfl⟩
    · rw [if_neg c2, if_neg c2]
      refine Or.inr ⟨_, _, rfl, rfl, fun k hk => ?_⟩
      unfold upd
      rw [h k hk, h (Int32.toNatClampNeg v) (by omega), h (Int32.toNatClampNeg w) (by omega)]
theorem nx83_c : ∀ (f : Nat) (a b : Int32) (R R' : Row), E6 R R' → E6o (nx83 f a b R) (nx83 f a b R')
  | 0, a, b, R, R', h => Or.inl ⟨rfl, rfl⟩
  | f + 1, a, b, R, R', h => by
    rw [nx83, nx83]
    by_cases c : b ≤ a
    · rw [if_pos c, if_pos c]
      exact Or.inr ⟨_, _, rfl, rfl, h⟩
    · rw [if_neg c, if_neg c]
      rcases nxs_c h a b with ⟨e1, e2⟩ | ⟨S, S', e1, e2, e3⟩
      · rw [e1, e2]
        exact Or.inl ⟨rfl, rfl⟩
      · rw [e1, e2, Option.bind_some, Option.bind_some]
        exact nx83_c f (a + 1) (b + -1) S S' e3
theorem nxt_c {F : Nat} {R R' : Row} (h : E6 R R') {v w : Int32} {S : Row} (hs : nxt F R v = some (w, S)) : ∃ S', nxt F R' v = some (w, S') ∧ E6 S S' := by
  unfold nxt at hs ⊢
  rw [← nx4_c h]
  cases h4 : nx4 R F (v - 2) with
  | none => rw [h4] at hs; cases hs
  | some m9 =>
    rw [h4, Option.bind_some] at hs
    rw [Option.bind_some]
    by_cases c : 0 ≤ m9
    · rw [if_pos c] at hs ⊢
      rw [← nx41_c h]
      cases h5 : nx41 R m9 F (v - 1) with
      | none => rw [h5] at hs; cases hs
      | some m19 =>
        rw [h5, Option.bind_some] at hs
        rw [Option.bind_some]
        rcases nxs_c h m9 m19 with ⟨e1, e2⟩ | ⟨S1, S1', e1, e2, e3⟩
        · rw [e1] at hs; cases hs
        · rw [e1, Option.bind_some] at hs
          rw [e2, Option.bind_some]
          rcases nx83_c F (m9 + 1) (v - 1) S1 S1' e3 with ⟨g1, g2⟩ | ⟨S2, S2', g1, g2, g3⟩
          · rw [g1] at hs; cases hs
          · rw [g1, Option.bind_some] at hs
            rw [g2, Option.bind_some]
            injection hs with hs
            injection hs with a1 a2
            subst a2
            rw [← a1]
            exact ⟨S2', rfl, g3⟩
    · rw [if_neg c] at hs ⊢
      injection hs with hs
      injection hs with a1 a2
      subst a2
      rw [← a1]
      exact ⟨R', rfl, h⟩
theorem eq6_E {R : Row} {o : List Nat} (h : eq6 R o = true) : E6 R (oR o) := by
  unfold eq6 at h
  rw [Bool.and_eq_true, Bool.and_eq_true, Bool.and_eq_true, Bool.and_eq_true, Bool.and_eq_true] at h
  obtain ⟨⟨⟨⟨⟨h0, h1⟩, h2⟩, h3⟩, h4⟩, h5⟩ := h
  intro k hk
  rcases (show k = 0 ∨ k = 1 ∨ k = 2 ∨ k = 3 ∨ k = 4 ∨ k = 5 by omega) with rfl | rfl | rfl | rfl | rfl | rfl
  · exact of_decide_eq_true h0
  · exact of_decide_eq_true h1
  · exact of_decide_eq_true h2
  · exact of_decide_eq_true h3
  · exact of_decide_eq_true h4
  · exact of_decide_eq_true h5
/-- the class goes from an order to the one behind it -/
theorem okn_nil {n : Nat} {o : List Nat} {R : Row} (h : okn n [o] = true) (hR : E6 R (oR o)) : ∃ S, nxt 2000 R (nI n) = some (0, S) := by
  have h1 : (match nxt 2000 (oR o) (nI n) with | some (w, _) => decide (w = 0) | none => false) = true := by
    have : ((match nxt 2000 (oR o) (nI n) with | some (w, _) => decide (w = 0) | none => false) && okn n []) = true := h
    rw [Bool.and_eq_true] at this
    exact this.1
  cases hx : nxt 2000 (oR o) (nI n) with
  | none => rw [hx] at h1; cases h1
  | some y =>
    obtain ⟨w, S⟩ := y
    rw [hx] at h1
    have hw : w = 0 := of_decide_eq_true h1
    subst hw
    obtain ⟨S', e1, -⟩ := nxt_c (fun k hk => (hR k hk).symm) hx
    exact ⟨S', e1⟩
theorem okn_cons {n : Nat} {o o2 : List Nat} {t : List (List Nat)} {R : Row} (h : okn n (o :: o2 :: t) = true) (hR : E6 R (oR o)) : okn n (o2 :: t) = true ∧ ∃ S, nxt 2000 R (nI n) = some (1, S) ∧ E6 S (oR o2) := by
  have h0 : ((match nxt 2000 (oR o) (nI n) with | some (w, R) => decide (w = 1) && eq6 R o2 | none => false) && okn n (o2 :: t)) = true := h
  rw [Bool.and_eq_true] at h0
  refine ⟨h0.2, ?_⟩
  have h1 := h0.1
  cases hx : nxt 2000 (oR o) (nI n) with
  | none => rw [hx] at h1; cases h1
  | some y =>
    obtain ⟨w, S⟩ := y
    rw [hx] at h1
    have h1 : (decide (w = 1) && eq6 S o2) = true := h1
    rw [Bool.and_eq_true] at h1
    have hw : w = 1 := of_decide_eq_true h1.1
    subst hw
    obtain ⟨S', e1, e2⟩ := nxt_c (fun k hk => (hR k hk).symm) hx
    exact ⟨S', e1, fun k hk => (e2 k hk).symm.trans (eq6_E h1.2 k hk)⟩
theorem okn_t : ∀ n, 1 ≤ n → n < 7 → okn n (mor n n []) = true := fun n h1 h2 => by
  rcases (show n = 1 ∨ n = 2 ∨ n = 3 ∨ n = 4 ∨ n = 5 ∨ n = 6 by omega) with rfl | rfl | rfl | rfl | rfl | rfl
  · exact okn_1
  · exact okn_2
  · exact okn_3
  · exact okn_4
  · exact okn_5
  · exact okn_6
