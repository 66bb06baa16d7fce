/-! newly made: the class's object, the reference; what holds ahead of the first call -/
theorem sr_lt : ∀ (k : Nat) (q : Nat × Nat), shSR k = some q → k < 224 := fun k q h => by
  unfold shSR at h
  split at h <;> first | omega | cases h
theorem rr_lt : ∀ (k i r : Nat), rfSR k i = some r → k < 224 ∧ i < 18 := fun k i r h => by
  unfold rfSR at h
  split at h <;> first | (split at h <;> first | omega | cases h) | cases h
def okS (k : Nat) : Bool := match shSR k with
  | some q => decide (shc11 k = some q)
  | none => true
def okR (k i : Nat) : Bool := match rfSR k i with
  | some r => decide (rfc11 k i = some (r : Int))
  | none => true
def okO (sh : Nat → Option (Nat × Nat)) (rf : Nat → Nat → Option Nat) (q k : Nat) : Bool := (match sh k with
  | some s => decide (shc11 (q + k) = some s)
  | none => true) && (List.range 13).all (fun i => match rf k i with
  | some r => decide (rfc11 (q + k) i = some ((q + r : Nat) : Int))
  | none => true)
theorem okS_all : ∀ k, k < 224 → okS k = true := by decide +kernel
theorem okR_all : ∀ k, k < 224 → ∀ i, i < 18 → okR k i = true := by decide +kernel
theorem okO_st : ∀ q, q < 218 → stq q = true → ∀ k, k < 7 → okO shSt rfSt q k = true := by decide +kernel
theorem okO_mm : ∀ q, q < 222 → mmq q = true → ∀ k, k < 2 → okO shMm rfMm q k = true := by decide +kernel
theorem okO_ty : ∀ q, q < 222 → tyq q = true → ∀ k, k < 2 → okO shTy rfMm q k = true := by decide +kernel
theorem okO_ct : ∀ k, k < 8 → okO shCt rfCt 4 k = true := by decide +kernel
theorem okM : ∀ k, k < 21 → shMd k = shc12 k := by decide +kernel
theorem okN : ∀ i, i < 36 → rfc12 0 i = (rfMd 0 i).map (fun r => (r : Int)) := by decide +kernel
theorem st_lt : ∀ q, stq q = true → q < 218 := fun q h => by
  simp [stq] at h
  omega
theorem mm_lt : ∀ q, mmq q = true → q < 222 := fun q h => by
  simp [mmq] at h
  omega
theorem ty_lt : ∀ q, tyq q = true → q < 222 := fun q h => by
  simp [tyq] at h
  omega
theorem ob_new {a : Nat} {h0 : HT} {n : Nat} {T : Nat → Option (Nat × Nat)} {I : Nat → Nat → Int32} {J : Nat → Nat → Int64} {P : Nat → Nat → Option Nat} {sh : Nat → Option (Nat × Nat)} {rf : Nat → Nat → Option Nat} {q m : Nat} (g : Gb a 224 shc11 ivc11 rfc11 h0 (n, T, I, J, P)) (hq : q + m ≤ 224) (hs : ∀ k s, sh k = some s → k < m) (hr : ∀ k i r, rf k i = some r → k < m ∧ i < 13) (ok : ∀ k, k < m → okO sh rf q k = true) : isOb sh rf T P (a + q) := by
  refine ⟨fun k s e => ?_, fun k i r e => ?_⟩
  · have hk := hs k s e
    have o := ok k hk
    unfold okO at o
    rw [Bool.and_eq_true] at o
    have o := o.1
    rw [e] at o
    have o : decide (shc11 (q + k) = some s) = true := o
    rw [Nat.add_assoc]
    exact g.T (q + k) (by omega) (of_decide_eq_true o)
  · have hk := hr k i r e
    have o := ok k hk.1
    unfold okO at o
    rw [Bool.and_eq_true] at o
    have o := List.all_eq_true.mp o.2 i (List.mem_range.mpr hk.2)
    rw [e] at o
    have o : decide (rfc11 (q + k) i = some ((q + r : Nat) : Int)) = true := o
    rw [Nat.add_assoc, Nat.add_assoc]
    exact g.r (q + k) i (by omega) (of_decide_eq_true o)
theorem sr_new {a : Nat} {h0 : HT} {n : Nat} {T : Nat → Option (Nat × Nat)} {I : Nat → Nat → Int32} {J : Nat → Nat → Int64} {P : Nat → Nat → Option Nat} (g : Gb a 224 shc11 ivc11 rfc11 h0 (n, T, I, J, P)) : isSR T P a := by
  refine ⟨fun k q e => ?_, fun k i r e => ?_, fun q e => ?_, fun q e => ?_, fun q e => ?_⟩
  · have hk := sr_lt k q e
    have o := okS_all k hk
    unfold okS at o
    rw [e] at o
    exact g.T k hk (of_decide_eq_true o)
  · have hk := rr_lt k i r e
    have o := okR_all k hk.1 i hk.2
    unfold okR at o
    rw [e] at o
    exact g.r k i hk.1 (of_decide_eq_true o)
  · refine ob_new (m := 7) g (by have := st_lt q e; omega) (fun k s h => ?_) (fun k i r h => ?_) (okO_st q (st_lt q e) e)
    · unfold shSt at h
      split at h
      · omega
      · split at h
        · omega
        · cases h
    · unfold rfSt at h
      split at h
      · omega
      · cases h
  · refine ob_new (m := 2) g (by have := mm_lt q e; omega) (fun k s h => ?_) (fun k i r h => ?_) (okO_mm q (mm_lt q e) e)
    · unfold shMm at h
      split at h
      · omega
      · split at h
        · omega
        · cases h
    · unfold rfMm at h
      split at h
      · omega
      · cases h
  · refine ob_new (m := 2) g (by have := ty_lt q e; omega) (fun k s h => ?_) (fun k i r h => ?_) (okO_ty q (ty_lt q e) e)
    · unfold shTy at h
      split at h
      · omega
      · split at h
        · omega
        · cases h
    · unfold rfMm at h
      split at h
      · omega
      · cases h
theorem ct_new {a : Nat} {h0 : HT} {n : Nat} {T : Nat → Option (Nat × Nat)} {I : Nat → Nat → Int32} {J : Nat → Nat → Int64} {P : Nat → Nat → Option Nat} (g : Gb a 224 shc11 ivc11 rfc11 h0 (n, T, I, J, P)) : isOb shCt rfCt T P (a + 4) ∧ P (a + 4) 8 = none ∧ P (a + 4) 9 = none := by
  refine ⟨ob_new (m := 8) g (by omega) (fun k s h => ?_) (fun k i r h => ?_) okO_ct, ?_, ?_⟩
  · refine Nat.not_le.mp fun hk => ?_
    rw [shC_n k hk] at h
    cases h
  · have := rfC_n k i r h
    omega
  · exact congrFun (g.2.2 4 (by omega)).2.2.2 8
  · exact congrFun (g.2.2 4 (by omega)).2.2.2 9
theorem md_new {a : Nat} {h0 : HT} {n : Nat} {T : Nat → Option (Nat × Nat)} {I : Nat → Nat → Int32} {J : Nat → Nat → Int64} {P : Nat → Nat → Option Nat} (g : Gb a 21 shc12 ivc12 rfc12 h0 (n, T, I, J, P)) : isMd T P a := by
  refine ⟨fun k q e => ?_, fun k i r e => ?_⟩
  · have hk : k < 21 := by
      unfold shMd at e
      split at e <;> first | omega | cases e
    exact g.T k hk (by rw [← okM k hk]; exact e)
  · have hk : k = 0 ∧ i < 36 := by
      unfold rfMd at e
      split at e <;> first | omega | cases e
    obtain ⟨rfl, hi⟩ := hk
    exact g.r 0 i (by omega) (by rw [okN i hi, e]; rfl)
/-- shapes that are forgotten from some cell on -/
theorem ob_cut {sh : Nat → Option (Nat × Nat)} {rf : Nat → Nat → Option Nat} {T : Nat → Option (Nat × Nat)} {P : Nat → Nat → Option Nat} {a m n : Nat} (h : isOb sh rf T P a) (hs : ∀ k s, sh k = some s → k < m) (hm : a + m ≤ n) : isOb sh rf (cutT T n) P a := ⟨fun k q e => by
  have := hs k q e
  rw [cut_in (by omega)]
  exact h.1 k q e, h.2⟩
theorem sr_cut {T : Nat → Option (Nat × Nat)} {P : Nat → Nat → Option Nat} {x n : Nat} (h : isSR T P x) (hn : x + 224 ≤ n) : isSR (cutT T n) P x := by
  refine ⟨fun k q e => ?_, h.2.1, fun q e => ?_, fun q e => ?_, fun q e => ?_⟩
  · have := sr_lt k q e
    rw [cut_in (by omega)]
    exact h.1 k q e
  · refine ob_cut (m := 7) (h.2.2.1 q e) (fun k s h => ?_) (by have := st_lt q e; omega)
    unfold shSt at h
    split at h
    · omega
    · split at h
      · omega
      · cases h
  · refine ob_cut (m := 2) (h.2.2.2.1 q e) (fun k s h => ?_) (by have := mm_lt q e; omega)
    unfold shMm at h
    split at h
    · omega
    · split at h
      · omega
      · cases h
  · refine ob_cut (m := 2) (h.2.2.2.2 q e) (fun k s h => ?_) (by have := ty_lt q e; omega)
    unfold shTy at h
    split at h
    · omega
    · split at h
      · omega
      · cases h
theorem md_cut {T : Nat → Option (Nat × Nat)} {P : Nat → Nat → Option Nat} {z n : Nat} (h : isMd T P z) (hn : z + 21 ≤ n) : isMd (cutT T n) P z := ob_cut (m := 21) h (fun k s e => by
  unfold shMd at e
  split at e <;> first | omega | cases e) hn
def ivz (k : Nat) : Bool := Nat.beq k 0 || Nat.beq k 2 || Nat.beq k 135 || Nat.beq k 137 || Nat.beq k 139 || Nat.beq k 141 || (List.range 31).all (fun i => decide (ivc11 k i = 0))
theorem ivz_all : ∀ k, k < 224 → ivz k = true := by decide +kernel
theorem iv_zero : ∀ k, k < 224 → k ≠ 0 → k ≠ 2 → k ≠ 135 → k ≠ 137 → k ≠ 139 → k ≠ 141 → ∀ i, i < 31 → ivc11 k i = 0 := fun k hk h0 h2 h3 h4 h5 h6 i hi => by
  have h := ivz_all k hk
  unfold ivz at h
  rw [beq_f h0, beq_f h2, beq_f h3, beq_f h4, beq_f h5, beq_f h6] at h
  exact of_decide_eq_true (List.all_eq_true.mp h i (List.mem_range.mpr hi))
theorem first_inv {x z : Nat} {h0 h1 : HT} {n nn nz : Nat} {T Tz : Nat → Option (Nat × Nat)} {I Iz : Nat → Nat → Int32} {J Jz : Nat → Nat → Int64} {P Pz : Nat → Nat → Option Nat} (g : Gb x 224 shc11 ivc11 rfc11 h0 (n, T, I, J, P)) (gz : Gb z 21 shc12 ivc12 rfc12 h1 (nz, Tz, Iz, Jz, Pz)) (hn : x + 224 ≤ nn) : InvF (cutT T nn) I J P x nn (x + 4) Iz Jz z 0 := by
  have hsr := sr_cut (n := nn) (sr_new g) (by omega)
  obtain ⟨hct, h8, h9⟩ := ct_new g
  have hi : ∀ k, k < 224 → I (x + k) = ivc11 k := fun k hk => (g.2.2 k hk).2.1
  have hp : ∀ k, k < 224 → ∀ i, P (x + k) i = rvl x (rfc11 k i) := fun k hk i => congrFun (g.2.2 k hk).2.2.2 i
  have hj : ∀ k, k < 224 → J (x + k) = fun _ => 0 := fun k hk => (g.2.2 k hk).2.2.1
  have zi : ∀ k, k < 21 → Iz (z + k) = ivc12 k := fun k hk => (gz.2.2 k hk).2.1
  have zj : ∀ k, k < 21 → Jz (z + k) = fun _ => 0 := fun k hk => (gz.2.2 k hk).2.2.1
  have zA : Iz (z + 1) = fun _ => 0 := zi 1 (by omega)
  have i0 : ∀ k, k < 224 → k ≠ 0 → k ≠ 2 → k ≠ 135 → k ≠ 137 → k ≠ 139 → k ≠ 141 → ∀ i, i < 31 → I (x + k) i = 0 := fun k a b c d e f q i hi' => by
    rw [hi k a]
    exact iv_zero k a b c d e f q i hi'
  have nI0 : (0 : Int32) = nI 0 := rfl
  have im : ∀ i, P (x + 92) i = none := fun i => by
    rw [hp 92 (by omega)]
    rfl
  have hlc : ∀ k, Lc P x (x + 4) k → k = x + 4 := fun k hk => by
    rcases hk with hk | ⟨i, _, hk⟩
    · exact hk
    · rw [im i] at hk
      cases hk
  have memo : ∀ k, k = 111 ∨ k = 116 ∨ k = 216 ∨ k = 221 → I (x + k) 0 = nI 0 := fun k hk => by
    rw [← nI0]
    exact i0 k (by omega) (by omega) (by omega) (by omega) (by omega) (by omega) (by omega) 0 (by omega)
  have hlen : ∀ k q, shCt k = some q → lenT (cutT T nn) (x + 4 + k) = q.2 := fun k q e => by
    have hk : k < 8 := Nat.not_le.mp fun hk => by
      rw [shC_n k hk] at e
      cases e
    unfold lenT
    rw [cut_in (by omega), hct.1 k q e]
  refine ⟨⟨hsr, ?_, cut_lt, hn⟩, 0, 0, 0, fun _ => 1, fun _ => 1, 0, 0, 1, ⟨?_, ?_, ?_, ?_, ?_, ?_, ?_, ?_, by omega, by omega⟩, ?_⟩
  · exact hp 0 (by omega) 3
  · intro k hk
    rw [hlc k hk]
    refine ⟨⟨Or.inl rfl, by omega, fun w hw => ?_⟩, fun k' hk' => ?_⟩
    · rw [h8, h9] at hw
      rcases hw with hw | hw <;> cases hw
    · rw [hlc k' hk']
      refine ⟨Or.inl rfl, fun w hw => ?_⟩
      rw [h8, h9] at hw
      rcases hw with hw | hw <;> cases hw
  · rw [zA]
    refine ⟨⟨ob_cut (m := 8) hct (fun k s e => Nat.not_le.mp fun hk => by
      rw [shC_n k hk] at e
      cases e) (by omega), (fun w hw => by rw [h8] at hw; cases hw), (fun w hw => by rw [h9] at hw; cases hw)⟩, ⟨by omega, rfl, rfl, by omega, fun p hp => by omega, fun p hp => by omega, fun s hs => by omega⟩, Or.inl ⟨rfl, rfl⟩, Or.inl ⟨rfl, rfl⟩, ⟨⟨?_, ?_, ?_, ?_, ?_, ?_, ?_⟩, Or.inl ⟨h8, rfl⟩, Or.inl ⟨h9, rfl⟩, fun _ _ _ => rfl, fun _ _ _ => rfl, hlen 5 _ rfl, hlen 6 _ rfl⟩, ⟨?_, ?_, ?_, ?_, fun p hp => by omega⟩, ⟨rfl, by omega⟩, 0, by omega, rfl, fun p hp => by omega⟩
    · exact i0 4 (by omega) (by omega) (by omega) (by omega) (by omega) (by omega) (by omega) 0 (by omega)
    · exact i0 4 (by omega) (by omega) (by omega) (by omega) (by omega) (by omega) (by omega) 1 (by omega)
    · exact i0 4 (by omega) (by omega) (by omega) (by omega) (by omega) (by omega) (by omega) 2 (by omega)
    · exact i0 4 (by omega) (by omega) (by omega) (by omega) (by omega) (by omega) (by omega) 3 (by omega)
    · exact fun p hp => ⟨i0 5 (by omega) (by omega) (by omega) (by omega) (by omega) (by omega) (by omega) p (by omega), i0 6 (by omega) (by omega) (by omega) (by omega) (by omega) (by omega) (by omega) p (by omega)⟩
    · exact fun t ht => ⟨i0 7 (by omega) (by omega) (by omega) (by omega) (by omega) (by omega) (by omega) t (by omega), 0, by omega, rfl⟩
    · exact fun k hk => ⟨i0 8 (by omega) (by omega) (by omega) (by omega) (by omega) (by omega) (by omega) k (by omega), (show (0 : Int) ≤ (0 : Int32).toInt by decide), (show (0 : Int32).toInt ≤ (99 : Int) by decide)⟩
    · exact i0 12 (by omega) (by omega) (by omega) (by omega) (by omega) (by omega) (by omega) 0 (by omega)
    · exact i0 12 (by omega) (by omega) (by omega) (by omega) (by omega) (by omega) (by omega) 1 (by omega)
    · exact i0 12 (by omega) (by omega) (by omega) (by omega) (by omega) (by omega) (by omega) 2 (by omega)
    · exact i0 12 (by omega) (by omega) (by omega) (by omega) (by omega) (by omega) (by omega) 3 (by omega)
  · rw [zA]
    exact ⟨by omega, by omega, rfl, i0 19 (by omega) (by omega) (by omega) (by omega) (by omega) (by omega) (by omega) 1 (by omega), i0 19 (by omega) (by omega) (by omega) (by omega) (by omega) (by omega) (by omega) 2 (by omega), fun j hj => by omega⟩
  · intro t ht
    refine ⟨0, by omega, ?_, ?_, ?_, fun i hi => by omega⟩
    · rw [zi 19 (by omega)]
      rfl
    · rw [hi (135 + 2 * t) (by omega)]
      rcases (show t = 0 ∨ t = 1 ∨ t = 2 ∨ t = 3 by omega) with rfl | rfl | rfl | rfl <;> rfl
    · rw [hi (135 + 2 * t) (by omega), zi 18 (by omega)]
      rcases (show t = 0 ∨ t = 1 ∨ t = 2 ∨ t = 3 by omega) with rfl | rfl | rfl | rfl <;> rfl
  · refine ⟨0, by omega, ?_, ?_, fun k hk => by omega⟩
    · exact congrFun (hi 0 (by omega)) 1
    · exact congrFun (zi 0 (by omega)) 5
  · refine ⟨?_, ?_⟩
    · rw [hi 2 (by omega)]
      exact (congrFun (zi 0 (by omega)) 13).symm
    · rw [hi 2 (by omega)]
      exact (congrFun (zi 0 (by omega)) 14).symm
  · intro i hi'
    refine Or.inl ⟨?_, im i⟩
    rw [zi 2 (by omega)]
    rfl
  · exact congrFun (hi 0 (by omega)) 9
  · refine ⟨⟨0, by omega, memo 116 (by omega), fun e => by omega⟩, ⟨0, by omega, memo 216 (by omega), fun e => by omega⟩, ⟨0, by omega, memo 221 (by omega), fun e => by omega⟩, ⟨0, by omega, memo 111 (by omega), fun e => by omega⟩⟩
