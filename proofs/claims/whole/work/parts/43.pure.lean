/-! questions of one look -/
theorem KeepZ.thr {Iz : Nat → Nat → Int32} {z : Nat} : KeepZ Iz (uI Iz z 0 0) z :=
  ⟨uI_row _ _ _ _ _ (by omega), uI_row _ _ _ _ _ (by omega), uI_row _ _ _ _ _ (by omega), uI_row _ _ _ _ _ (by omega), uI_row _ _ _ _ _ (by omega), uI_k _ _ _ _ _ (by decide), uI_k _ _ _ _ _ (by decide), uI_k _ _ _ _ _ (by decide)⟩
theorem thr_row {Iz : Nat → Nat → Int32} {z q : Nat} (h : 1 ≤ q) : uI Iz z 0 0 (z + q) = Iz (z + q) := uI_row _ _ _ _ _ (by omega)
theorem noPerson_bad {I : Nat → Nat → Int32} {x c n : Nat} {v : Int32} (h : I c 0 = nI n) (hn : n ≤ 6) (hv : v < 0 ∨ nI n ≤ v) : x_noPerson I x c v = 1 := by
  unfold x_noPerson
  rw [h]
  by_cases c0 : v < 0
  · rw [if_pos c0]
  · rw [if_neg c0, if_neg (Int32.not_lt.mpr (hv.resolve_left c0))]
theorem noPerson_ok {I : Nat → Nat → Int32} {x c n j : Nat} (h : I c 0 = nI n) (hn : n ≤ 6) (hj : j < n) : x_noPerson I x c (nI j) = 0 := by
  unfold x_noPerson
  rw [h, if_neg (nI_pos (by omega)), if_pos (nI_lt hj (by omega))]
theorem noTune_bad {I : Nat → Nat → Int32} {x c n : Nat} {v : Int32} (h : I c 1 = nI n) (hn : n ≤ 6) (hv : v < 0 ∨ nI n ≤ v) : x_noTune I x c v = 1 := by
  unfold x_noTune
  rw [h]
  by_cases c0 : v < 0
  · rw [if_pos c0]
  · rw [if_neg c0, if_neg (Int32.not_lt.mpr (hv.resolve_left c0))]
theorem noTune_ok {I : Nat → Nat → Int32} {x c n j : Nat} (h : I c 1 = nI n) (hn : n ≤ 6) (hj : j < n) : x_noTune I x c (nI j) = 0 := by
  unfold x_noTune
  rw [h, if_neg (nI_pos (by omega)), if_pos (nI_lt hj (by omega))]
theorem isb_1 {α : Type} (r : Option α) : isb 1 r = r := isb_b2 true r
theorem isb_0 {α : Type} (r : Option α) : isb 0 r = r := isb_b2 false r
theorem isPerson_bad {I : Nat → Nat → Int32} {z n : Nat} {v : Int32} (h : I (z + 1) 1 = nI n) (hn : n ≤ 6) (hv : v < 0 ∨ nI n ≤ v) : r_isPerson I z (Int32.toInt64 v) = some 0 := by
  unfold r_isPerson
  rw [show Int32.toNatClampNeg 1 = 1 from rfl, h, within_bad (by omega) hv, isb_0]
theorem isPerson_ok {I : Nat → Nat → Int32} {z n j : Nat} (h : I (z + 1) 1 = nI n) (hn : n ≤ 6) (hj : j < n) : r_isPerson I z (Int32.toInt64 (nI j)) = some 1 := by
  unfold r_isPerson
  rw [show Int32.toNatClampNeg 1 = 1 from rfl, h, within_ok (by omega) hj, isb_1]
theorem isTune_bad {I : Nat → Nat → Int32} {z n : Nat} {v : Int32} (h : I (z + 1) 2 = nI n) (hn : n ≤ 6) (hv : v < 0 ∨ nI n ≤ v) : r_isTune I z (Int32.toInt64 v) = some 0 := by
  unfold r_isTune
  rw [show Int32.toNatClampNeg 2 = 2 from rfl, h, within_bad (by omega) hv, isb_0]
theorem isTune_ok {I : Nat → Nat → Int32} {z n j : Nat} (h : I (z + 1) 2 = nI n) (hn : n ≤ 6) (hj : j < n) : r_isTune I z (Int32.toInt64 (nI j)) = some 1 := by
  unfold r_isTune
  rw [show Int32.toNatClampNeg 2 = 2 from rfl, h, within_ok (by omega) hj, isb_1]
section
variable {T : Nat → Option (Nat × Nat)} {I : Nat → Nat → Int32} {J : Nat → Nat → Int64} {P : Nat → Nat → Option Nat} {x nn c : Nat} {Iz : Nat → Nat → Int32} {Jz : Nat → Nat → Int64} {z N n u tn : Nat} {LT LP : Row → Int32} {d na v : Nat}
theorem InvS.n6 (h : InvS T I J P x nn c Iz Jz z N n u tn LT LP d na v) : n ≤ 6 := h.2.1.2.1.1
theorem InvS.c0 (h : InvS T I J P x nn c Iz Jz z N n u tn LT LP d na v) : I c 0 = nI n := h.2.1.2.2.2.2.1.1.1.trans h.2.1.2.1.2.1
theorem InvS.c1 (h : InvS T I J P x nn c Iz Jz z N n u tn LT LP d na v) : I c 1 = nI tn := h.2.1.2.2.2.2.1.1.2.1.trans h.2.1.2.2.2.2.2.2.1.1
theorem InvS.t4 (h : InvS T I J P x nn c Iz Jz z N n u tn LT LP d na v) : tn ≤ 4 := h.2.1.2.2.2.2.2.2.1.2
theorem InvS.z1 (h : InvS T I J P x nn c Iz Jz z N n u tn LT LP d na v) : Iz (z + 1) 1 = nI n := h.2.1.2.1.2.1
theorem InvS.z2 (h : InvS T I J P x nn c Iz Jz z N n u tn LT LP d na v) : Iz (z + 1) 2 = nI tn := h.2.1.2.2.2.2.2.2.1.1
theorem InvS.wf (h : InvS T I J P x nn c Iz Jz z N n u tn LT LP d na v) : Wf (Iz (z + 1)) n u := h.2.1.2.1
theorem InvS.cc (h : InvS T I J P x nn c Iz Jz z N n u tn LT LP d na v) : CC T I P c (Iz (z + 1)) LT LP := h.2.1.2.2.2.2.1
theorem InvS.rs (h : InvS T I J P x nn c Iz Jz z N n u tn LT LP d na v) : RS I (x + 12) n (Iz (z + 1)) true := h.2.1.2.2.2.2.2.1
theorem InvS.apt (h : InvS T I J P x nn c Iz Jz z N n u tn LT LP d na v) {a : Nat} (h1 : x + 12 ≤ a) (h2 : a + 7 ≤ x + 224) : Apt P c a := by
  have hc := h.1 c (Or.inl rfl)
  have h0 := hc.1.1
  refine ⟨by omega, fun w hw => ?_⟩
  have := hc.1.2.2 w hw
  have := (hc.2 c (Or.inl rfl)).2 w hw
  omega
theorem fault_call (h : InvS T I J P x nn c Iz Jz z N n u tn LT LP d na v) (a : Int32) : r_fault Iz z a = some (x_fault I x a, uI Iz z 0 0) := by
  unfold r_fault x_fault
  dsimp only
  rw [uI_k _ _ _ _ _ (by decide), uI_k _ _ _ _ _ (by decide), h.2.2.2.2.2.1.1, h.2.2.2.2.2.1.2]
  split
  · rfl
  · split <;> rfl
theorem person_call (h : InvS T I J P x nn c Iz Jz z N n u tn LT LP d na v) (a b : Int32) : ∃ r, x_person 2000 I x c a b = some r ∧ r_person 2000 Iz z a b = some (r, uI Iz z 0 0) := by
  have hn := h.n6
  have e1 : uI Iz z 0 0 (z + 1) = Iz (z + 1) := thr_row (by decide)
  have hw : Wf (uI Iz z 0 0 (z + 1)) n u := by rw [e1]; exact h.wf
  unfold x_person r_person
  generalize uI Iz z 0 0 = Iz0 at *
  rcases arg_cases a n (by omega) with ha | ⟨p, hp, rfl⟩
  · rw [noPerson_bad h.c0 hn ha, if_neg (by decide)]
    refine ⟨_, rfl, ?_⟩
    try dsimp only
    rw [isPerson_bad hw.2.1 hn ha, Option.bind_some]
    rfl
  · rw [noPerson_ok h.c0 hn hp, if_pos rfl]
    try dsimp only
    rw [isPerson_ok hw.2.1 hn hp, Option.bind_some]
    try dsimp only
    rw [if_neg (show ¬ (1 : Int32) = 0 by decide)]
    have r := h.rs
    obtain ⟨x1, x2, x3, x4, x5, x6⟩ := r.2.2.2.2 p hp
    simp (disch := omega) only [lit_nI, nI_add, chk_nI, nI_cl]
    rw [e1, s_isUp_is (r.2.1.trans h.wf.2.2.1) h.wf.u64 (by omega), r_isUp_is (by rw [e1]; exact h.wf.2.2.1) h.wf.u64 (by omega), s_placeOf_is h.wf r hp, r_placeOf_is hw hp, e1, x1, x2 rfl, x3, x5, (h.cc.1.2.2.2.2.1 p (by omega)).2]
    by_cases hb : b2 (ub u p) = nI 0
    · simp only [hb, if_true, Option.bind_some]
      repeat' split
      all_goals exact ⟨_, rfl, rfl⟩
    · simp only [hb, if_false, Option.bind_some]
      repeat' split
      all_goals exact ⟨_, rfl, rfl⟩
theorem office_call (h : InvS T I J P x nn c Iz Jz z N n u tn LT LP d na v) (a : Int32) : ∃ r, x_office I x c a = some r ∧ r_office Iz z a = some (r, uI Iz z 0 0) := by
  have e1 : uI Iz z 0 0 (z + 1) = Iz (z + 1) := thr_row (by decide)
  unfold x_office r_office
  generalize uI Iz z 0 0 = Iz0 at *
  try dsimp only
  rcases arg_cases a 6 (by decide) with ha | ⟨k, hk, rfl⟩
  · have hb : r_within (Int32.toInt64 a) 0 5 = 0 := within_bad (n := 6) (by decide) ha
    rw [hb, if_pos rfl]
    by_cases c0 : a < 0
    · rw [if_pos c0]
      exact ⟨_, rfl, rfl⟩
    · rw [if_neg c0, if_neg (show ¬ a < 6 from Int32.not_lt.mpr (ha.resolve_left c0))]
      exact ⟨_, rfl, rfl⟩
  · have hb : r_within (Int32.toInt64 (nI k)) 0 5 = 1 := within_ok (n := 6) (by decide) hk
    rw [hb, if_neg (show ¬ (1 : Int32) = 0 by decide), if_neg (nI_pos (by omega)), if_pos (show nI k < 6 from nI_lt (b := 6) hk (by decide))]
    simp (disch := omega) only [lit_nI, nI_add, chk_nI, nI_cl]
    rw [e1, (h.cc.1.2.2.2.2.2.2 k hk).1]
    exact ⟨_, rfl, rfl⟩
theorem spot_go (hw : Wf (Iz (z + 1)) n u) {g : Int32} : ∀ (j k f : Nat), k + j = n → j < f → (∀ p, p < k → Iz (z + 1) (35 + p) ≠ g) → (∃ p, p < n ∧ Iz (z + 1) (35 + p) = g ∧ r_spot_7 2000 Iz z g f (nI k) = some (.inl (nI p, Iz))) ∨ ((∀ p, p < n → Iz (z + 1) (35 + p) ≠ g) ∧ r_spot_7 2000 Iz z g f (nI k) = some (.inr (nI n))) := by
  have hn := hw.1
  intro j
  induction j with
  | zero =>
    intro k f hk hf hb
    obtain ⟨f, rfl⟩ : ∃ f', f = f' + 1 := ⟨f - 1, by omega⟩
    obtain rfl : k = n := by omega
    refine Or.inr ⟨hb, ?_⟩
    rw [r_spot_7, show Int32.toNatClampNeg 1 = 1 from rfl, hw.2.1, if_pos (nI_le (Nat.le_refl _) (by omega))]
  | succ j ih =>
    intro k f hk hf hb
    obtain ⟨f, rfl⟩ : ∃ f', f = f' + 1 := ⟨f - 1, by omega⟩
    rw [r_spot_7, show Int32.toNatClampNeg 1 = 1 from rfl, hw.2.1, if_neg (nI_ge (by omega) (by omega)), show (35 : Int32) + nI k = nI (35 + k) from nI_add 35 k, chk_nI (by omega) (by decide), nI_cl (by omega)]
    by_cases e : Iz (z + 1) (35 + k) = g
    · rw [if_pos e]
      exact Or.inl ⟨k, by omega, e, rfl⟩
    · rw [if_neg e, nI_1]
      exact ih (k + 1) f (by omega) (by omega) (fun p hp => by
        by_cases e2 : p = k
        · rw [e2]; exact e
        · exact hb p (by omega))
theorem spot_call (h : InvS T I J P x nn c Iz Jz z N n u tn LT LP d na v) (a : Int32) : ∃ r, x_spot I x c a = some r ∧ r_spot 2000 Iz z a = some (r, uI Iz z 0 0) := by
  have hn := h.n6
  have e1 : uI Iz z 0 0 (z + 1) = Iz (z + 1) := thr_row (by decide)
  have hw : Wf (uI Iz z 0 0 (z + 1)) n u := by rw [e1]; exact h.wf
  have sp := h.wf.2.2.2.2
  unfold x_spot r_spot
  dsimp only
  have go := spot_go hw (g := a) n 0 2000 (by omega) (by omega) (fun p hp => by omega)
  rcases arg_cases a n (by omega) with ha | ⟨k, hk, rfl⟩
  · rw [noPerson_bad h.c0 hn ha, if_neg (by decide)]
    refine ⟨_, rfl, ?_⟩
    rcases go with ⟨p, hp, e, -⟩ | ⟨-, e⟩
    · exfalso
      rw [e1] at e
      have := sp.1 p hp
      rw [this.2] at e
      rw [← e] at ha
      rcases ha with ha | ha
      · exact nI_pos (by omega) ha
      · exact nI_ge this.1 (by omega) ha
    · have e : r_spot_7 2000 (uI Iz z 0 0) z a 2000 0 = _ := e
      rw [e]
      rfl
  · rw [noPerson_ok h.c0 hn hk, if_pos rfl, chk_nI (by omega) (by decide), nI_cl (by omega)]
    obtain ⟨p, hp, es⟩ := sp.2.2 k hk
    have r6 := (h.rs.2.2.2.2 p hp).2.2.2.2.2
    rw [es] at r6
    rw [r6]
    refine ⟨_, rfl, ?_⟩
    rcases go with ⟨q, hq, e, e2⟩ | ⟨e, -⟩
    · rw [e1, (sp.1 q hq).2] at e
      have hsq := (sp.1 q hq).1
      have : spo (Iz (z + 1)) q = k := (nI_eq (by omega) (by omega)).mp e
      have : q = p := sp.2.1 q hq p hp (by omega)
      subst this
      have e2 : r_spot_7 2000 (uI Iz z 0 0) z (nI k) 2000 0 = _ := e2
      rw [e2]
      rfl
    · exfalso
      refine e p hp ?_
      rw [e1, (sp.1 p hp).2, es]
theorem tires_call (h : InvS T I J P x nn c Iz Jz z N n u tn LT LP d na v) (a b : Int32) : ∃ r I1 Iz1, x_tires 2000 T I P x c a b = some (r, I1) ∧ r_tires 2000 Iz z a b = some (r, Iz1) ∧ (∀ q, q ≠ c + 5 → q ≠ c + 6 → I1 q = I q) ∧ KeepZ Iz Iz1 z := by
  have hn := h.n6
  have ht := h.t4
  have e1 : uI Iz z 0 0 (z + 1) = Iz (z + 1) := thr_row (by decide)
  have hw : Wf (uI Iz z 0 0 (z + 1)) n u := by rw [e1]; exact h.wf
  unfold x_tires r_tires
  try dsimp only
  rcases arg_cases a n (by omega) with ha | ⟨p, hp, rfl⟩
  · rw [noPerson_bad h.c0 hn ha, if_neg (by decide), isPerson_bad hw.2.1 hn ha, Option.bind_some]
    exact ⟨_, _, _, rfl, rfl, fun _ _ _ => rfl, KeepZ.thr⟩
  rw [noPerson_ok h.c0 hn hp, if_pos rfl, isPerson_ok hw.2.1 hn hp, Option.bind_some]
  try dsimp only
  rw [if_neg (show ¬ (1 : Int32) = 0 by decide)]
  rcases arg_cases b tn (by omega) with hb | ⟨t, ht2, rfl⟩
  · rw [noTune_bad h.c1 (by omega) hb, if_neg (by decide), isTune_bad (by rw [e1]; exact h.z2) (by omega) hb, Option.bind_some]
    exact ⟨_, _, _, rfl, rfl, fun _ _ _ => rfl, KeepZ.thr⟩
  rw [noTune_ok h.c1 (by omega) ht2, if_pos rfl, isTune_ok (by rw [e1]; exact h.z2) (by omega) ht2, Option.bind_some]
  try dsimp only
  rw [if_neg (show ¬ (1 : Int32) = 0 by decide), s_isUp_is (h.rs.2.1.trans h.wf.2.2.1) h.wf.u64 (by omega), r_isUp_is (by rw [e1]; exact h.wf.2.2.1) h.wf.u64 (by omega), Option.bind_some]
  try dsimp only
  cases hb : ub u p with
  | false =>
    rw [b2_f, if_pos rfl, if_pos rfl]
    exact ⟨_, _, _, rfl, rfl, fun _ _ _ => rfl, KeepZ.thr⟩
  | true =>
    rw [if_neg (show ¬ b2 true = 0 by decide), if_neg (show ¬ b2 true = 0 by decide)]
    have hA := h.apt (a := x + 12) (by omega) (by omega)
    have hac := hA.1
    obtain ⟨I1, f1, f3, f5, f6, q1⟩ := lookAtMinute_is (t := nI t) h.wf h.rs hac
    obtain ⟨I2, f2, g2, q2⟩ := lookAtPerson_is (t := t) h.wf (h.rs.same (fun q h1 h2 => q1 q (by omega))) hac hp (by rw [q1 _ (by omega)]; exact (h.cc.1.2.2.2.2.1 p (by omega)).2) f3 f5 f6
    have hC := h.cc.same (I' := I2) (fun q h1 h2 => by rw [q2 q (by omega), q1 q (by omega)]) (fun w hw => by have := hA.2 w hw; rw [q2 _ (by omega), q1 _ (by omega)])
    obtain ⟨I3, f4, q3⟩ := lossNow_is (a := x + 12) hC.2.1 hC.2.2.2.2.2.1 hC.2.2.2.2.2.2 hA
    unfold ct_tiring
    rw [f1, Option.bind_some]
    try dsimp only
    rw [f2, Option.bind_some]
    try dsimp only
    rw [f4, Option.bind_some, hC.2.2.2.1 _ _ g2]
    obtain ⟨Iz1, k1, k2⟩ := r_tiresOf_is (I := uI Iz z 0 0) (z := z) (L := LT) t hw hp (by rw [e1]; exact h.2.1.2.2.1)
    rw [k1, Option.bind_some, e1]
    refine ⟨_, _, _, rfl, rfl, fun q a1 a2 => by show I3 q = I q; rw [q3 q a2, q2 q a1, q1 q a1], KeepZ.thr.tr ?_⟩
    exact ⟨k2 _ (by omega) (by omega), k2 _ (by omega) (by omega), k2 _ (by omega) (by omega), k2 _ (by omega) (by omega), k2 _ (by omega) (by omega), by show Iz1 z 5 = _; rw [k2 _ (by omega) (by omega)], by show Iz1 z 13 = _; rw [k2 _ (by omega) (by omega)], by show Iz1 z 14 = _; rw [k2 _ (by omega) (by omega)]⟩
end
