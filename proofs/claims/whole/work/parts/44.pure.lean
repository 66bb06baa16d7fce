/-! sums; counts -/
def msum (A : Row) (o : Nat) : Nat → Int32
  | 0 => 0
  | k + 1 => msum A o k + A (o + k)
section
variable {T : Nat → Option (Nat × Nat)} {I : Nat → Nat → Int32} {J : Nat → Nat → Int64} {P : Nat → Nat → Option Nat} {x nn c : Nat} {Iz : Nat → Nat → Int32} {Jz : Nat → Nat → Int64} {z N n u tn : Nat} {LT LP : Row → Int32} {d na v : Nat}
theorem s_all_go {a : Nat} {A : Row} (hn : n ≤ 6) (h0 : I a 0 = nI n) (h1 : ∀ p, p < n → I (a + 1) p = A (41 + p)) : ∀ (j k f : Nat), k + j = n → j < f → s_allStrengths_4 2000 I a f (msum A 41 k) (nI k) = some (msum A 41 n, nI n) := by
  intro j
  induction j with
  | zero =>
    intro k f hk hf
    obtain ⟨f, rfl⟩ : ∃ f', f = f' + 1 := ⟨f - 1, by omega⟩
    obtain rfl : k = n := by omega
    rw [s_allStrengths_4, h0, if_pos (nI_le (Nat.le_refl _) (by omega))]
  | succ j ih =>
    intro k f hk hf
    obtain ⟨f, rfl⟩ : ∃ f', f = f' + 1 := ⟨f - 1, by omega⟩
    rw [s_allStrengths_4, h0, if_neg (nI_ge (by omega) (by omega)), chk_nI (by omega) (by decide), nI_cl (by omega), h1 k (by omega), nI_1]
    exact ih (k + 1) f (by omega) (by omega)
theorem r_str_go (hw : Wf (Iz (z + 1)) n u) : ∀ (j k f : Nat), k + j = n → j < f → r_strengths_4 2000 Iz z f (msum (Iz (z + 1)) 41 k) (nI k) = some (msum (Iz (z + 1)) 41 n, nI n) := by
  have hn := hw.1
  intro j
  induction j with
  | zero =>
    intro k f hk hf
    obtain ⟨f, rfl⟩ : ∃ f', f = f' + 1 := ⟨f - 1, by omega⟩
    obtain rfl : k = n := by omega
    rw [r_strengths_4, show Int32.toNatClampNeg 1 = 1 from rfl, hw.2.1, if_pos (nI_le (Nat.le_refl _) (by omega))]
  | succ j ih =>
    intro k f hk hf
    obtain ⟨f, rfl⟩ : ∃ f', f = f' + 1 := ⟨f - 1, by omega⟩
    rw [r_strengths_4, show Int32.toNatClampNeg 1 = 1 from rfl, hw.2.1, if_neg (nI_ge (by omega) (by omega)), show (41 : Int32) + nI k = nI (41 + k) from nI_add 41 k, chk_nI (by omega) (by decide), nI_cl (by omega), nI_1]
    exact ih (k + 1) f (by omega) (by omega)
theorem ct_odds_go {A : Row} (ht : tn ≤ 4) (h0 : I c 1 = nI tn) (h1 : ∀ t, t < 4 → I (c + 3) t = A (22 + t)) : ∀ (j k f : Nat), k + j = tn → j < f → ct_allOdds_4 2000 I c f (msum A 22 k) (nI k) = some (msum A 22 tn, nI tn) := by
  intro j
  induction j with
  | zero =>
    intro k f hk hf
    obtain ⟨f, rfl⟩ : ∃ f', f = f' + 1 := ⟨f - 1, by omega⟩
    obtain rfl : k = tn := by omega
    rw [ct_allOdds_4, h0, if_pos (nI_le (Nat.le_refl _) (by omega))]
  | succ j ih =>
    intro k f hk hf
    obtain ⟨f, rfl⟩ : ∃ f', f = f' + 1 := ⟨f - 1, by omega⟩
    rw [ct_allOdds_4, h0, if_neg (nI_ge (by omega) (by omega)), chk_nI (by omega) (by decide), nI_cl (by omega), h1 k (by omega), nI_1]
    exact ih (k + 1) f (by omega) (by omega)
theorem ct_odds_is {A : Row} (ht : tn ≤ 4) (h0 : I c 1 = nI tn) (h1 : ∀ t, t < 4 → I (c + 3) t = A (22 + t)) : ct_allOdds 2000 I c = some (msum A 22 tn) := by
  unfold ct_allOdds
  have := ct_odds_go ht h0 h1 tn 0 2000 (by omega) (by omega)
  have this : ct_allOdds_4 2000 I c 2000 0 0 = _ := this
  rw [this]
  rfl
theorem r_odds_go (ht : tn ≤ 4) (h0 : Iz (z + 1) 2 = nI tn) : ∀ (j k f : Nat), k + j = tn → j < f → r_oddsAll_4 2000 Iz z f (msum (Iz (z + 1)) 22 k) (nI k) = some (msum (Iz (z + 1)) 22 tn, nI tn) := by
  intro j
  induction j with
  | zero =>
    intro k f hk hf
    obtain ⟨f, rfl⟩ : ∃ f', f = f' + 1 := ⟨f - 1, by omega⟩
    obtain rfl : k = tn := by omega
    rw [r_oddsAll_4, show Int32.toNatClampNeg 2 = 2 from rfl, h0, if_pos (nI_le (Nat.le_refl _) (by omega))]
  | succ j ih =>
    intro k f hk hf
    obtain ⟨f, rfl⟩ : ∃ f', f = f' + 1 := ⟨f - 1, by omega⟩
    rw [r_oddsAll_4, show Int32.toNatClampNeg 2 = 2 from rfl, h0, if_neg (nI_ge (by omega) (by omega)), show (22 : Int32) + nI k = nI (22 + k) from nI_add 22 k, chk_nI (by omega) (by decide), nI_cl (by omega), nI_1]
    exact ih (k + 1) f (by omega) (by omega)
theorem r_odds_is (ht : tn ≤ 4) (h0 : Iz (z + 1) 2 = nI tn) : r_oddsAll 2000 Iz z = some (msum (Iz (z + 1)) 22 tn) := by
  unfold r_oddsAll
  have := r_odds_go ht h0 tn 0 2000 (by omega) (by omega)
  have this : r_oddsAll_4 2000 Iz z 2000 0 0 = _ := this
  rw [this]
  rfl
theorem count_call (h : InvS T I J P x nn c Iz Jz z N n u tn LT LP d na v) (a : Int32) : ∃ r, x_count 2000 I x c a = some r ∧ r_count 2000 Iz z a = some (r, uI Iz z 0 0) := by
  have hn := h.n6
  have e1 : uI Iz z 0 0 (z + 1) = Iz (z + 1) := thr_row (by decide)
  have e5 : uI Iz z 0 0 z 5 = Iz z 5 := uI_k _ _ _ _ _ (by decide)
  have hw : Wf (uI Iz z 0 0 (z + 1)) n u := by rw [e1]; exact h.wf
  have k1 : s_allStrengths 2000 I (x + 12) = some (msum (Iz (z + 1)) 41 n) := by
    unfold s_allStrengths
    have := s_all_go (A := Iz (z + 1)) hn h.rs.1 (fun p hp => (h.rs.2.2.2.2 p hp).1) n 0 2000 (by omega) (by omega)
    have this : s_allStrengths_4 2000 I (x + 12) 2000 0 0 = _ := this
    rw [this]
    rfl
  have k2 : r_strengths 2000 (uI Iz z 0 0) z = some (msum (Iz (z + 1)) 41 n) := by
    unfold r_strengths
    have := r_str_go hw n 0 2000 (by omega) (by omega)
    rw [e1] at this
    have this : r_strengths_4 2000 (uI Iz z 0 0) z 2000 0 0 = _ := this
    rw [this]
    rfl
  have k3 : ct_allOdds 2000 I c = some (msum (Iz (z + 1)) 22 tn) := ct_odds_is h.t4 h.c1 (fun t ht => (h.cc.1.2.2.2.2.2.1 t ht).1)
  have k4 : r_oddsAll 2000 (uI Iz z 0 0) z = some (msum (Iz (z + 1)) 22 tn) := by
    have := r_odds_is (Iz := uI Iz z 0 0) (z := z) h.t4 (by rw [e1]; exact h.z2)
    rw [e1] at this
    exact this
  unfold x_count r_count
  generalize uI Iz z 0 0 = Iz0 at *
  dsimp only
  simp only [show Int32.toNatClampNeg 1 = 1 from rfl, show Int32.toNatClampNeg 2 = 2 from rfl, show Int32.toNatClampNeg 3 = 3 from rfl, show Int32.toNatClampNeg 32 = 32 from rfl, show Int32.toNatClampNeg 33 = 33 from rfl, show Int32.toNatClampNeg 65 = 65 from rfl, show Int32.toNatClampNeg 0 = 0 from rfl]
  unfold s_howManyUp
  obtain ⟨g0, g1, g2, g3, -⟩ := h.cc.1
  obtain ⟨tp, -, t1, t2, -⟩ := h.2.2.2.2.1
  rw [e1, g0, g1, g2, g3, h.rs.2.1, h.rs.2.2.1, k1, k2, k3, k4, e5, t1, t2, h.2.2.1.2.2.2.2.1, h.2.2.1.2.2.1, h.wf.2.2.1, bitCount_tab u h.wf.u64, bitsOf_tab u h.wf.u64]
  simp only [Option.bind_some]
  by_cases c0 : a = 0
  · rw [if_pos c0, if_pos c0]
    exact ⟨_, rfl, rfl⟩
  rw [if_neg c0, if_neg c0]
  by_cases c1 : a = 1
  · rw [if_pos c1, if_pos c1]
    exact ⟨_, rfl, rfl⟩
  rw [if_neg c1, if_neg c1]
  by_cases c2 : a = 2
  · rw [if_pos c2, if_pos c2]
    exact ⟨_, rfl, rfl⟩
  rw [if_neg c2, if_neg c2]
  by_cases c3 : a = 3
  · rw [if_pos c3, if_pos c3]
    exact ⟨_, rfl, rfl⟩
  rw [if_neg c3, if_neg c3]
  by_cases c4 : a = 4
  · rw [if_pos c4, if_pos c4]
    exact ⟨_, rfl, rfl⟩
  rw [if_neg c4, if_neg c4]
  by_cases c5 : a = 5
  · rw [if_pos c5, if_pos c5]
    exact ⟨_, rfl, rfl⟩
  rw [if_neg c5, if_neg c5]
  by_cases c6 : a = 6
  · rw [if_pos c6, if_pos c6]
    exact ⟨_, rfl, rfl⟩
  rw [if_neg c6, if_neg c6]
  by_cases c7 : a = 7
  · rw [if_pos c7, if_pos c7]
    exact ⟨_, rfl, rfl⟩
  rw [if_neg c7, if_neg c7]
  by_cases c8 : a = 8
  · rw [if_pos c8, if_pos c8]
    exact ⟨_, rfl, rfl⟩
  rw [if_neg c8, if_neg c8]
  by_cases c9 : a = 9
  · rw [if_pos c9, if_pos c9]
    exact ⟨_, rfl, rfl⟩
  rw [if_neg c9, if_neg c9]
  by_cases c10 : a = 10
  · rw [if_pos c10, if_pos c10]
    exact ⟨_, rfl, rfl⟩
  rw [if_neg c10, if_neg c10]
  exact ⟨_, rfl, rfl⟩
end
