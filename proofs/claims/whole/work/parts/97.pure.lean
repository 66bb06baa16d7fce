/-! steps of the parser on both sides -/
def Fpc (I I1 : Nat → Nat → Int32) (x : Nat) : Prop := (∀ q, q ≠ x + 2 → q ≠ x + 3 → I1 q = I q) ∧ ∀ k, k ≠ 0 → k ≠ 1 → k ≠ 4 → k ≠ 5 → k ≠ 6 → k ≠ 7 → k ≠ 10 → I1 (x + 2) k = I (x + 2) k
def Fpr (I I1 : Nat → Nat → Int32) (z : Nat) : Prop := (∀ q, q ≠ z → q ≠ z + 4 → I1 q = I q) ∧ (∀ k, k ≠ 6 → k ≠ 7 → k ≠ 9 → k ≠ 10 → k ≠ 11 → k ≠ 12 → I1 z k = I z k) ∧ ∀ k, k < 396 → I1 (z + 4) k = I (z + 4) k
theorem Fpc.rf {I : Nat → Nat → Int32} {x : Nat} : Fpc I I x := ⟨fun _ _ _ => rfl, fun _ _ _ _ _ _ _ _ => rfl⟩
theorem Fpc.tr {I I1 I2 : Nat → Nat → Int32} {x : Nat} (h : Fpc I I1 x) (h2 : Fpc I1 I2 x) : Fpc I I2 x := ⟨fun q a b => (h2.1 q a b).trans (h.1 q a b), fun k a b c d e f g => (h2.2 k a b c d e f g).trans (h.2 k a b c d e f g)⟩
theorem Fpr.rf {I : Nat → Nat → Int32} {z : Nat} : Fpr I I z := ⟨fun _ _ _ => rfl, fun _ _ _ _ _ _ _ => rfl, fun _ _ => rfl⟩
theorem Fpr.tr {I I1 I2 : Nat → Nat → Int32} {z : Nat} (h : Fpr I I1 z) (h2 : Fpr I1 I2 z) : Fpr I I2 z := ⟨fun q a b => (h2.1 q a b).trans (h.1 q a b), fun k a b c d e f => (h2.2.1 k a b c d e f).trans (h.2.1 k a b c d e f), fun k hk => (h2.2.2 k hk).trans (h.2.2 k hk)⟩
theorem Gd.fc {I I1 : Nat → Nat → Int32} {x : Nat} (h : Gd I I1 x) : Fpc I I1 x := ⟨fun q a _ => h.1 q a, fun k a b c d e f _ => h.2 k a b c d e f⟩
theorem Gz.fr {I I1 : Nat → Nat → Int32} {z : Nat} (h : Gz I I1 z) : Fpr I I1 z := ⟨fun q a _ => h.1 q a, fun k a b c d _ _ => h.2 k a b c d, fun k _ => by rw [h.1 (z + 4) (by omega)]⟩
def Ps (x z sz : Nat) (b : Nat → Nat) (I Iz : Nat → Nat → Int32) (t a e m n : Nat) : Prop := Tk I x Iz z sz b t a e ∧ I (x + 2) 10 = nI m ∧ Iz (z + 4) 396 = nI n
def Bd (x z : Nat) (I Iz : Nat → Nat → Int32) : Prop := ∃ f p m, (1 ≤ f ∧ f ≤ 4 ∧ p ≤ 900 ∧ m ≤ 900) ∧ Iz z 11 = nI f ∧ Iz z 12 = nI p ∧ I (x + 2) 0 = nI f ∧ I (x + 2) 1 = nI p ∧ I (x + 2) 10 = nI m
theorem kc_inj : ∀ t, t < 36 → ∀ u, u < 36 → (kcT.getD t 0 = kcT.getD u 0 ↔ t = u) := by decide +kernel
theorem kr_inj : ∀ t, t < 36 → ∀ u, u < 36 → (krT.getD t 0 = krT.getD u 0 ↔ t = u) := by decide +kernel
section
variable {x z sz : Nat} {b : Nat → Nat} {I Iz : Nat → Nat → Int32} {t a e m n : Nat}
theorem Ps.tk (h : Ps x z sz b I Iz t a e m n) : t < 36 ∧ a ≤ e ∧ e ≤ sz ∧ sz ≤ 900 ∧ (t ≠ 0 → a < e) := ⟨h.1.1.2.1, h.1.1.2.2.1, h.1.1.2.2.2.1, h.1.1.1.1, h.1.1.2.2.2.2⟩
theorem Ps.kc (h : Ps x z sz b I Iz t a e m n) : I (x + 2) 6 = kcT.getD t 0 := h.1.2.1.2.2
theorem Ps.kr (h : Ps x z sz b I Iz t a e m n) : Iz z 9 = krT.getD t 0 := h.1.2.2.1.2.2
theorem Ps.ok (h : Ps x z sz b I Iz t a e m n) : Iz z 11 = 0 := h.1.2.2.2.2.1
/-- other rows and fields may change -/
theorem Ps.mv {I1 Iz1 : Nat → Nat → Int32} {m1 n1 : Nat} (h : Ps x z sz b I Iz t a e m n) (h1 : ∀ k, k ≠ 10 → I1 (x + 2) k = I (x + 2) k) (h1' : I1 (x + 1) = I (x + 1)) (h2 : ∀ k, Iz1 z k = Iz z k) (h2' : Iz1 (z + 3) = Iz (z + 3)) (h3 : I1 (x + 2) 10 = nI m1) (h4 : Iz1 (z + 4) 396 = nI n1) : Ps x z sz b I1 Iz1 t a e m1 n1 := by
  obtain ⟨⟨⟨⟨t1, t2, t3, t4⟩, hh⟩, ⟨c1, c2, c3⟩, ⟨r1, r2, r3⟩, hn, ho, hf, hg⟩, _, _⟩ := h
  refine ⟨⟨⟨⟨t1, fun k hk => by rw [h1', h2']; exact t2 k hk, by rw [h1 3 (by decide)]; exact t3, by rw [h2]; exact t4⟩, hh⟩, ⟨by rw [h1 4 (by decide)]; exact c1, by rw [h1 5 (by decide)]; exact c2, by rw [h1 6 (by decide)]; exact c3⟩, ⟨by rw [h2]; exact r1, by rw [h2]; exact r2, by rw [h2]; exact r3⟩, fun ht => ?_, by rw [h2]; exact ho, by rw [h1 0 (by decide)]; exact hf, by rw [h1 1 (by decide)]; exact hg⟩, h3, h4⟩
  rw [h1 7 (by decide), h2]
  exact hn ht
theorem tk_go (h : Ps x z sz b I Iz t a e m n) (ht : t ≠ 3) : ∃ t1 a1 e1 I1 Iz1, rd_takeToken 2000 I x = some I1 ∧ r_nextToken 2000 Iz z = some Iz1 ∧ Ps x z sz b I1 Iz1 t1 a1 e1 m n ∧ e ≤ a1 ∧ I1 (x + 3) = I (x + 3) ∧ Iz1 (z + 4) = Iz (z + 4) ∧ Fpc I I1 x ∧ Fpr Iz Iz1 z := by
  obtain ⟨⟨⟨t1, t2, t3, t4, t5⟩, ⟨c1, c2, c3⟩, ⟨r1, r2, r3⟩, hn, ho, hf, hg⟩, hm, hk⟩ := h
  rw [if_neg ht] at hf hg
  obtain ⟨t', a', e', I1, Iz1, e1, e2, e3, e4, e5, e6⟩ := tok_is t1 c2 r2 t4 hf hg ho
  exact ⟨t', a', e', I1, Iz1, e1, e2, ⟨e3, by rw [e5.2 10 (by decide) (by decide) (by decide) (by decide) (by decide) (by decide)]; exact hm, by rw [e6.1 _ (by omega)]; exact hk⟩, e4, e5.1 _ (by omega), e6.1 _ (by omega), e5.fc, e6.fr⟩
theorem bad_go {v : Nat} (h : Ps x z sz b I Iz t a e m n) (hm9 : m ≤ 900) (hv : 2 ≤ v ∧ v ≤ 4) : ∃ I1 Iz1, rd_refuse I x (nI v) = some (0, I1) ∧ r_fails Iz z (nI v) = some Iz1 ∧ Bd x z I1 Iz1 ∧ Fpc I I1 x ∧ Fpr Iz Iz1 z ∧ I1 (x + 3) = I (x + 3) ∧ Iz1 (z + 4) = Iz (z + 4) := by
  obtain ⟨⟨⟨t1, t2, t3, t4, t5⟩, ⟨c1, c2, c3⟩, ⟨r1, r2, r3⟩, hn, ho, hf, hg⟩, hm, hk⟩ := h
  have hs := t1.1
  unfold rd_refuse r_fails
  rw [if_pos ho, r3]
  have fr : ∀ w : Int32, Fpr Iz (uI (uI Iz z 11 w) z 12 (nI a)) z := fun w => ⟨fun q h1 h2 => by rw [uI_row _ _ _ _ _ h1, uI_row _ _ _ _ _ h1], fun k _ _ _ _ h5 h6 => by rw [uI_k _ _ _ _ _ h6, uI_k _ _ _ _ _ h5], fun k hk => by rw [uI_row _ _ _ _ _ (by omega), uI_row _ _ _ _ _ (by omega)]⟩
  by_cases c : t = 3
  · rw [if_pos c] at hf hg
    rw [hf, if_neg (by decide), if_pos ((kr_3 t t2).mpr c)]
    try dsimp only
    rw [uI_k _ _ _ _ _ (show 6 ≠ 11 by decide), r1]
    exact ⟨_, _, rfl, rfl, ⟨1, a, m, by omega, by rw [uI_k _ _ _ _ _ (by decide), uI_e]; rfl, uI_e _ _ _ _, hf, hg, hm⟩, Fpc.rf, fr 1, rfl, by rw [uI_row _ _ _ _ _ (by omega), uI_row _ _ _ _ _ (by omega)]⟩
  · rw [if_neg c] at hf
    rw [hf, if_pos rfl, if_neg (fun cc => c ((kr_3 t t2).mp cc))]
    try dsimp only
    rw [uI_k _ _ _ _ _ (show 6 ≠ 11 by decide), r1, uI_k _ _ _ _ _ (show 4 ≠ 0 by decide), c1]
    refine ⟨_, _, rfl, rfl, ⟨v, a, m, by omega, by rw [uI_k _ _ _ _ _ (by decide), uI_e], uI_e _ _ _ _, by rw [uI_k _ _ _ _ _ (by decide), uI_e], uI_e _ _ _ _, by rw [uI_k _ _ _ _ _ (by decide), uI_k _ _ _ _ _ (by decide)]; exact hm⟩, ⟨fun q h1 h2 => by rw [uI_row _ _ _ _ _ h1, uI_row _ _ _ _ _ h1], fun k h0 h1 _ _ _ _ _ => by rw [uI_k _ _ _ _ _ h1, uI_k _ _ _ _ _ h0]⟩, fr _, by rw [uI_row _ _ _ _ _ (by omega), uI_row _ _ _ _ _ (by omega)], by rw [uI_row _ _ _ _ _ (by omega), uI_row _ _ _ _ _ (by omega)]⟩
theorem step_t : ∀ op, op < 16 → ∀ v, v < 1000 → w_step (nI op) (nI v) = nI (16 * v + op) := by decide +kernel
theorem step_w {op v : Nat} (h : op < 16) (hv : v < 1000) : w_step (nI op) (nI v) = nI (16 * v + op) := step_t op h v hv
theorem em_go {op v : Nat} (h : Ps x z sz b I Iz t a e m n) (hm : m < 900) (ho : op < 16) (hv : v < 1000) : ∃ I1, rd_emit I x (nI op) (nI v) = some (nI m, I1) ∧ Ps x z sz b I1 Iz t a e (m + 1) n ∧ Fpc I I1 x ∧ I1 (x + 3) m = nI (16 * v + op) ∧ ∀ k, k ≠ m → I1 (x + 3) k = I (x + 3) k := by
  unfold rd_emit
  try dsimp only
  rw [h.2.1, if_neg (nI_ge hm (by decide)), chk_nI hm (by decide), nI_cl (by omega), uI_row _ _ _ _ _ (show x + 2 ≠ x + 3 by omega), h.2.1, nI_1, step_w ho hv]
  refine ⟨_, rfl, h.mv (fun k hk => by rw [uI_k _ _ _ _ _ hk, uI_row _ _ _ _ _ (by omega)]) (by rw [uI_row _ _ _ _ _ (by omega), uI_row _ _ _ _ _ (by omega)]) (fun _ => rfl) rfl (uI_e _ _ _ _) h.2.2, ⟨fun q h1 h2 => by rw [uI_row _ _ _ _ _ h1, uI_row _ _ _ _ _ h2], fun k _ _ _ _ _ _ h9 => by rw [uI_k _ _ _ _ _ h9, uI_row _ _ _ _ _ (by omega)]⟩, by rw [uI_row _ _ _ _ _ (by omega), uI_e], fun k hk => by rw [uI_row _ _ _ _ _ (by omega), uI_k _ _ _ _ _ hk]⟩
theorem ai_go {op k : Nat} (h : Ps x z sz b I Iz t a e m n) (hk : k < 900) (hm : m ≤ 900) (ho : op < 16) : ∃ I1, rd_aimHere I x (nI k) (nI op) = some I1 ∧ Ps x z sz b I1 Iz t a e m n ∧ Fpc I I1 x ∧ I1 (x + 3) k = nI (16 * m + op) ∧ ∀ j, j ≠ k → I1 (x + 3) j = I (x + 3) j := by
  unfold rd_aimHere
  rw [h.2.1, if_neg (nI_ge hk (by decide)), chk_nI hk (by decide), nI_cl (by omega), step_w ho (by omega)]
  refine ⟨_, rfl, h.mv (fun k hk => by rw [uI_row _ _ _ _ _ (by omega)]) (by rw [uI_row _ _ _ _ _ (by omega)]) (fun _ => rfl) rfl (by rw [uI_row _ _ _ _ _ (by omega)]; exact h.2.1) h.2.2, ⟨fun q h1 h2 => by rw [uI_row _ _ _ _ _ h2], fun k _ _ _ _ _ _ h9 => by rw [uI_row _ _ _ _ _ (by omega)]⟩, by rw [uI_e], fun k hk => by rw [uI_k _ _ _ _ _ hk]⟩
theorem co_go {c : Int32} (h : Ps x z sz b I Iz t a e m n) (hn : n < 900) : ∃ Iz1, r_codes Iz z c = some Iz1 ∧ Ps x z sz b I Iz1 t a e m (n + 1) ∧ Fpr Iz Iz1 z ∧ Iz1 (z + 4) (397 + n) = c ∧ ∀ k, k ≠ 396 → k ≠ 397 + n → Iz1 (z + 4) k = Iz (z + 4) k := by
  unfold r_codes
  have e1 : (396 : Int32).toNatClampNeg = 396 := rfl
  rw [if_pos h.ok, e1, h.2.2, show (397 : Int32) + nI n = nI (397 + n) from nI_add 397 n, chk_nI (by omega) (by decide), nI_cl (by omega)]
  try dsimp only
  rw [uI_k _ _ _ _ _ (show 396 ≠ 397 + n by omega), h.2.2, nI_1]
  refine ⟨_, rfl, h.mv (fun _ _ => rfl) rfl (fun k => by rw [uI_row _ _ _ _ _ (by omega), uI_row _ _ _ _ _ (by omega)]) (by rw [uI_row _ _ _ _ _ (by omega), uI_row _ _ _ _ _ (by omega)]) h.2.1 (uI_e _ _ _ _), ⟨fun q h1 h2 => by rw [uI_row _ _ _ _ _ h2, uI_row _ _ _ _ _ h2], fun k _ _ _ _ _ _ => by rw [uI_row _ _ _ _ _ (by omega), uI_row _ _ _ _ _ (by omega)], fun k hk => by rw [uI_k _ _ _ _ _ (by omega), uI_k _ _ _ _ _ (by omega)]⟩, by rw [uI_k _ _ _ _ _ (by omega), uI_e], fun k h1 h2 => by rw [uI_k _ _ _ _ _ h1, uI_k _ _ _ _ _ h2]⟩
/-! after a fault -/
theorem Bd.ne (h : Bd x z I Iz) : ¬ Iz z 11 = 0 := fun cc => by
  obtain ⟨f, p, m, h1, h2, _⟩ := h
  rw [h2] at cc
  have := (nI_eq (b := 0) (by omega) (by decide)).mp cc
  omega
theorem Bd.is {c : Int32} (h : Bd x z I Iz) : r_is Iz z c = 0 := by unfold r_is; rw [if_neg h.ne]
theorem Bd.eats {c : Int32} (h : Bd x z I Iz) : r_eats 2000 Iz z c = some (0, Iz) := by unfold r_eats; rw [h.is, if_pos rfl]
theorem Bd.codes {c : Int32} (h : Bd x z I Iz) : r_codes Iz z c = some Iz := by unfold r_codes; rw [if_neg h.ne]
theorem Bd.fails {c : Int32} (h : Bd x z I Iz) : r_fails Iz z c = some Iz := by unfold r_fails; rw [if_neg h.ne]
theorem Bd.emit {op v : Int32} (h : Bd x z I Iz) : ∃ r I1, rd_emit I x op v = some (r, I1) ∧ Bd x z I1 Iz ∧ Fpc I I1 x := by
  obtain ⟨f, p, m, h1, h2, h3, h4, h5, h6⟩ := h
  unfold rd_emit
  try dsimp only
  rw [h6]
  by_cases c : 900 ≤ m
  · rw [if_pos (nI_le c (by omega))]
    exact ⟨_, _, rfl, ⟨f, p, m, h1, h2, h3, h4, h5, h6⟩, Fpc.rf⟩
  · rw [if_neg (nI_ge (by omega) (by decide)), chk_nI (by omega) (by decide), nI_cl (by omega), uI_row _ _ _ _ _ (show x + 2 ≠ x + 3 by omega), h6, nI_1]
    exact ⟨_, _, rfl, ⟨f, p, m + 1, by omega, h2, h3, by rw [uI_k _ _ _ _ _ (by decide), uI_row _ _ _ _ _ (by omega)]; exact h4, by rw [uI_k _ _ _ _ _ (by decide), uI_row _ _ _ _ _ (by omega)]; exact h5, uI_e _ _ _ _⟩, ⟨fun q h1 h2 => by rw [uI_row _ _ _ _ _ h1, uI_row _ _ _ _ _ h2], fun k _ _ _ _ _ _ h9 => by rw [uI_k _ _ _ _ _ h9, uI_row _ _ _ _ _ (by omega)]⟩⟩
/-- the reference reads on, and changes nothing -/
theorem bd_parse (h : ¬ Iz z 11 = 0) : (∀ k v, r_parse 2000 z (k + 1) 0 v Iz = some Iz) ∧ (∀ k v, r_parse 2000 z (k + 2) 2 v Iz = some Iz) ∧ (∀ k v, r_parse 2000 z (k + 3) 3 v Iz = some Iz) := by
  have hi : ∀ c, r_is Iz z c = 0 := fun c => by unfold r_is; rw [if_neg h]
  have he : ∀ c, r_eats 2000 Iz z c = some (0, Iz) := fun c => by unfold r_eats; rw [hi, if_pos rfl]
  have hf : ∀ c, r_fails Iz z c = some Iz := fun c => by unfold r_fails; rw [if_neg h]
  have p0 : ∀ k v, r_parse 2000 z (k + 1) 0 v Iz = some Iz := fun k v => by
    rw [r_parse, if_pos rfl]
    unfold r_readAtomB
    rw [hi, if_pos rfl, if_neg h, hi, if_pos rfl, hi, if_pos rfl, hf]
    rfl
  have p2 : ∀ k v, r_parse 2000 z (k + 2) 2 v Iz = some Iz := fun k v => by
    rw [r_parse, if_neg (by decide), if_neg (by decide), if_pos rfl]
    unfold r_readTermB
    rw [p0, Option.bind_some]
    try dsimp only
    rw [r_readTermB_5, he, Option.bind_some]
    rfl
  refine ⟨p0, p2, fun k v => ?_⟩
  rw [r_parse, if_neg (by decide), if_neg (by decide), if_neg (by decide), if_pos rfl]
  unfold r_readSumB
  rw [p2, Option.bind_some]
  try dsimp only
  rw [r_readSumB_5, hi, if_pos rfl, hi, if_pos rfl, Option.bind_some]
/-! one word more -/
theorem is_t {u : Nat} (h : Ps x z sz b I Iz t a e m n) (hu : u < 36) : r_is Iz z (krT.getD u 0) = if t = u then 1 else 0 := by
  unfold r_is
  rw [if_pos h.ok, h.kr]
  by_cases c : t = u
  · rw [if_pos c, if_pos ((kr_inj t h.tk.1 u hu).mpr c)]
  · rw [if_neg c, if_neg (fun cc => c ((kr_inj t h.tk.1 u hu).mp cc))]
theorem expect_go {u : Nat} (h : Ps x z sz b I Iz t a e m n) (hm : m ≤ 900) (hu : u < 36) (hu3 : u ≠ 3) : (t = u ∧ ∃ t1 a1 e1 I1 Iz1, rd_expect 2000 I x (kcT.getD u 0) = some (1, I1) ∧ r_eats 2000 Iz z (krT.getD u 0) = some (1, Iz1) ∧ Ps x z sz b I1 Iz1 t1 a1 e1 m n ∧ e ≤ a1 ∧ I1 (x + 3) = I (x + 3) ∧ Iz1 (z + 4) = Iz (z + 4) ∧ Fpc I I1 x ∧ Fpr Iz Iz1 z) ∨ (t ≠ u ∧ ∃ I1 Iz1, rd_expect 2000 I x (kcT.getD u 0) = some (0, I1) ∧ r_eats 2000 Iz z (krT.getD u 0) = some (0, Iz) ∧ r_fails Iz z 2 = some Iz1 ∧ Bd x z I1 Iz1 ∧ Fpc I I1 x ∧ Fpr Iz Iz1 z ∧ Iz1 (z + 4) = Iz (z + 4)) := by
  unfold rd_expect r_eats
  rw [is_t h hu, h.kc]
  by_cases c : t = u
  · left
    refine ⟨c, ?_⟩
    obtain ⟨t1, a1, e1, I1, Iz1, g1, g2, g3⟩ := tk_go h (by omega)
    rw [if_pos ((kc_inj t h.tk.1 u hu).mpr c), if_pos c, if_neg (by decide), g1, g2]
    exact ⟨t1, a1, e1, I1, Iz1, rfl, rfl, g3⟩
  · right
    refine ⟨c, ?_⟩
    obtain ⟨I1, Iz1, g1, g2, g3, g4, g5, g6, g7⟩ := bad_go (v := 2) h hm (by omega)
    have g1 : rd_refuse I x 2 = _ := g1
    rw [if_neg (fun cc => c ((kc_inj t h.tk.1 u hu).mp cc)), if_neg c, if_pos rfl, g1]
    exact ⟨I1, Iz1, rfl, rfl, g2, g3, g4, g5, g7⟩
theorem within_go {d : Nat} (h : Ps x z sz b I Iz t a e m n) (hm : m ≤ 900) (ht : t ≠ 3) (hd : d ≤ 6) : (d < 6 ∧ ∃ t1 a1 e1 I1 Iz1, rd_goWithin 2000 I x (nI d) = some (1, I1) ∧ r_goesIn 2000 Iz z (nI d) = some (1, Iz1) ∧ Ps x z sz b I1 Iz1 t1 a1 e1 m n ∧ e ≤ a1 ∧ I1 (x + 3) = I (x + 3) ∧ Iz1 (z + 4) = Iz (z + 4) ∧ Fpc I I1 x ∧ Fpr Iz Iz1 z) ∨ (d = 6 ∧ ∃ I1 Iz1, rd_goWithin 2000 I x (nI d) = some (0, I1) ∧ r_goesIn 2000 Iz z (nI d) = some (0, Iz1) ∧ Bd x z I1 Iz1 ∧ Fpc I I1 x ∧ Fpr Iz Iz1 z) := by
  unfold rd_goWithin r_goesIn
  by_cases c : d < 6
  · left
    refine ⟨c, ?_⟩
    obtain ⟨t1, a1, e1, I1, Iz1, g1, g2, g3, g4⟩ := tk_go h ht
    rw [if_pos (show nI d < 6 from nI_lt (b := 6) c (by decide)), if_neg (show ¬ nI d = 6 from fun cc => by have := (nI_eq (b := 6) (by omega) (by decide)).mp cc; omega), if_pos h.ok, g1, g2, Option.bind_some, Option.bind_some]
    try dsimp only
    rw [if_pos g3.ok]
    exact ⟨t1, a1, e1, I1, Iz1, rfl, rfl, g3, g4⟩
  · right
    obtain rfl : d = 6 := by omega
    refine ⟨rfl, ?_⟩
    obtain ⟨I1, Iz1, g1, g2, g3, g4, g5, g6, g7⟩ := bad_go (v := 4) h hm (by omega)
    have g1 : rd_refuse I x 4 = _ := g1
    have g2 : r_fails Iz z 4 = _ := g2
    rw [if_neg (by decide), if_pos (show nI 6 = 6 from rfl), g1, g2, Option.bind_some, Option.bind_some]
    try dsimp only
    rw [if_neg g3.ne, if_neg g3.ne]
    exact ⟨I1, Iz1, rfl, rfl, g3, g4, g5⟩
end
