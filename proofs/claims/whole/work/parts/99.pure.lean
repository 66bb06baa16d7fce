/-! the parsers side by side: operators in a row -/
def rtag (t : Nat) : Nat := [3, 2, 0, 1, 6, 5, 4].getD t 0
def ndp (t d : Nat) : Nat := 8 * (6 - d) + [4, 3, 2, 1, 8, 7, 6].getD t 0
def Out (x z sz : Nat) (b : Nat → Nat) (I Iz : Nat → Nat → Int32) (aa a m n m0 n0 nd : Nat) (tr : Bool) (r : Int32) (I1 Iz1 : Nat → Nat → Int32) : Prop := Fpc I I1 x ∧ Fpr Iz Iz1 z ∧ ((r = 0 ∧ Bd x z I1 Iz1) ∨ (r = 1 ∧ ∃ t1 a1 e1 m1 n1 φ, Ps x z sz b I1 Iz1 t1 a1 e1 m1 n1 ∧ (aa ≤ a1 ∧ m1 + a ≤ m + a1 ∧ n1 + a ≤ n + a1 ∧ m ≤ m1 ∧ n ≤ n1) ∧ SegC (I1 (x + 3)) m0 m1 nd φ ∧ SegR (Iz1 (z + 4)) n0 n1 φ ∧ (∀ k, k < m0 → I1 (x + 3) k = I (x + 3) k) ∧ (∀ k, k < n0 → Iz1 (z + 4) (397 + k) = Iz (z + 4) (397 + k)) ∧ (tr = true → ∀ f, φ f = 0 ∨ φ f = 1)))
def Spec (x z sz : Nat) (b : Nat → Nat) (tag d kc kr : Nat) : Prop := ∀ (I Iz : Nat → Nat → Int32) (t a e m n : Nat), Ps x z sz b I Iz t a e m n → m ≤ a → n ≤ a → (tag = 3 → t = 29) → ∃ r I1 Iz1, rd_parse 2000 x kc tag (nI d) I = some (r, I1) ∧ r_parse 2000 z kr (rtag tag) (nI d) Iz = some Iz1 ∧ Out x z sz b I Iz (a + 1) a m n m n (ndp tag d) (Nat.ble 4 tag) r I1 Iz1
section
variable {x z sz : Nat} {b : Nat → Nat}
theorem Out.then {I Iz I3 Iz3 I1 Iz1 : Nat → Nat → Int32} {aa a m n m0 n0 nd aa' a3 m3 n3 m0' n0' : Nat} {tr : Bool} {r : Int32} (h : Out x z sz b I3 Iz3 aa' a3 m3 n3 m0' n0' nd tr r I1 Iz1) (h1 : Fpc I I3 x) (h2 : Fpr Iz Iz3 z) (hm : m0' = m0) (hn : n0' = n0) (h3 : ∀ k, k < m0 → I3 (x + 3) k = I (x + 3) k) (h4 : ∀ k, k < n0 → Iz3 (z + 4) (397 + k) = Iz (z + 4) (397 + k)) (h5 : aa ≤ aa' ∧ m3 + a ≤ m + a3 ∧ n3 + a ≤ n + a3 ∧ m ≤ m3 ∧ n ≤ n3) : Out x z sz b I Iz aa a m n m0 n0 nd tr r I1 Iz1 := by
  subst hm
  subst hn
  obtain ⟨g1, g2, g3⟩ := h
  refine ⟨h1.tr g1, h2.tr g2, ?_⟩
  rcases g3 with g3 | ⟨g3, t1, a1, e1, m1, n1, φ, k1, k2, k3, k4, k5, k6, k7⟩
  · exact Or.inl g3
  · exact Or.inr ⟨g3, t1, a1, e1, m1, n1, φ, k1, by omega, k3, k4, fun k hk => (k5 k hk).trans (h3 k hk), fun k hk => (k6 k hk).trans (h4 k hk), k7⟩
theorem Ps.isc {I Iz : Nat → Nat → Int32} {t a e m n u : Nat} (h : Ps x z sz b I Iz t a e m n) (c : t = u) : I (x + 2) 6 = kcT.getD u 0 := by rw [h.kc, c]
theorem Ps.nsc {I Iz : Nat → Nat → Int32} {t a e m n u : Nat} (h : Ps x z sz b I Iz t a e m n) (hu : u < 36) (c : t ≠ u) : ¬ I (x + 2) 6 = kcT.getD u 0 := fun cc => c ((kc_inj t h.tk.1 u hu).mp (by rw [← h.kc]; exact cc))
theorem Ps.isr {I Iz : Nat → Nat → Int32} {t a e m n u : Nat} (h : Ps x z sz b I Iz t a e m n) (hu : u < 36) (c : t = u) : r_is Iz z (krT.getD u 0) = 1 := by rw [is_t h hu, if_pos c]
theorem Ps.nsr {I Iz : Nat → Nat → Int32} {t a e m n u : Nat} (h : Ps x z sz b I Iz t a e m n) (hu : u < 36) (c : t ≠ u) : r_is Iz z (krT.getD u 0) = 0 := by rw [is_t h hu, if_neg c]
/-- an operator, and what stands behind it -/
theorem bin_go {I Iz : Nat → Nat → Int32} {t a e m n m0 n0 n1 nd tag d kc kr op : Nat} {c : Int32} {φ : Row → Int32} {tr : Bool} (hsub : Spec x z sz b tag d kc kr) (h : Ps x z sz b I Iz t a e m n) (ht : t ≠ 3 ∧ t ≠ 0) (htag : tag ≠ 3) (hm : m ≤ a) (hn : n ≤ a) (hs : SegC (I (x + 3)) m0 m n1 φ) (hr : SegR (Iz (z + 4)) n0 n φ) (ho : 2 ≤ op ∧ op ≤ 9) (hj : ∀ p q, w_join (nI op) p q = r_between c p q) (hc : 3000 ≤ c ∧ c ≠ 3006 ∧ c ≠ 3009) (hn1 : n1 ≤ nd) (hn2 : ndp tag d + 1 ≤ nd) (htr : tr = true → ∀ ψ : Row → Int32, (Nat.ble 4 tag = true → ∀ f, ψ f = 0 ∨ ψ f = 1) → ∀ f, w_join (nI op) (φ f) (ψ f) = 0 ∨ w_join (nI op) (φ f) (ψ f) = 1) (hmm : m0 ≤ m) (hnn : n0 ≤ n) : ∃ I1 Iz1, rd_takeToken 2000 I x = some I1 ∧ r_nextToken 2000 Iz z = some Iz1 ∧ ∃ r I2 Iz2, rd_parse 2000 x kc tag (nI d) I1 = some (r, I2) ∧ r_parse 2000 z kr (rtag tag) (nI d) Iz1 = some Iz2 ∧ ∃ u I3 Iz3, rd_emit I2 x (nI op) (nI 0) = some (u, I3) ∧ r_codes Iz2 z c = some Iz3 ∧ Out x z sz b I Iz (a + 1) a m n m0 n0 nd tr r I3 Iz3 := by
  obtain ⟨p1, p2, p3, p4, p5⟩ := h.tk
  obtain ⟨t1, a1, e1, I1, Iz1, g1, g2, g3, g4, g5, g6, g7, g8⟩ := tk_go h ht.1
  refine ⟨I1, Iz1, g1, g2, ?_⟩
  have hae := p5 ht.2
  obtain ⟨r, I2, Iz2, k1, k2, k3, k4, k5⟩ := hsub I1 Iz1 t1 a1 e1 m n g3 (by omega) (by omega) (fun cc => absurd cc htag)
  refine ⟨r, I2, Iz2, k1, k2, ?_⟩
  rcases k5 with ⟨k5, k6⟩ | ⟨k5, t2, a2, e2, m2, n2, ψ, k6, k7, k8, k9, k10, k11, k12⟩
  · obtain ⟨u, I3, q1, q2, q3⟩ := k6.emit (op := nI op) (v := nI 0)
    exact ⟨u, I3, Iz2, q1, k6.codes, (g7.tr k3).tr q3, g8.tr k4, Or.inl ⟨k5, q2⟩⟩
  · obtain ⟨q1, q2, q3, q4, q5⟩ := k6.tk
    obtain ⟨I3, w1, w2, w3, w4, w5⟩ := em_go (op := op) (v := 0) k6 (by omega) (by omega) (by omega)
    obtain ⟨Iz3, v1, v2, v3, v4, v5⟩ := co_go (c := c) w2 (by omega)
    refine ⟨_, I3, Iz3, w1, v1, (g7.tr k3).tr w3, (g8.tr k4).tr v3, Or.inr ⟨k5, t2, a2, e2, m2 + 1, n2 + 1, fun f => w_join (nI op) (φ f) (ψ f), v2, by omega, ?_, ?_, ?_, ?_, fun hh => htr hh ψ k12⟩⟩
    · refine segC_bin (hs.keep (nd1 := n1) (fun k h1 h2 => ?_) (Nat.le_refl _)) (k8.keep (nd1 := ndp tag d) (fun k h1 h2 => w5 k (by omega)) (Nat.le_refl _)) w4 ho hn1 hn2
      rw [w5 k (by omega), k10 k (by omega), g5]
    · have e : (fun f => w_join (nI op) (φ f) (ψ f)) = (fun f => r_between c (φ f) (ψ f)) := by funext f; exact hj _ _
      rw [e]
      refine segR_bin (hr.keep (fun k h1 h2 => ?_)) (k9.keep (fun k h1 h2 => v5 _ (by omega) (by omega))) v4 (stR_bin hc.1 hc.2.1 hc.2.2)
      rw [v5 _ (by omega) (by omega), k11 k (by omega), g6]
    · intro k hk
      rw [w5 k (by omega), k10 k (by omega), g5]
    · intro k hk
      rw [v5 _ (by omega) (by omega), k11 k (by omega), g6]
theorem bit_and {p q : Int32} (h : p = 0 ∨ p = 1) (h2 : q = 0 ∨ q = 1) : w_join (nI 8) p q = 0 ∨ w_join (nI 8) p q = 1 := by
  rcases h with rfl | rfl <;> rcases h2 with rfl | rfl <;> decide
theorem bit_or {p q : Int32} (h : p = 0 ∨ p = 1) (h2 : q = 0 ∨ q = 1) : w_join (nI 9) p q = 0 ∨ w_join (nI 9) p q = 1 := by
  rcases h with rfl | rfl <;> rcases h2 with rfl | rfl <;> decide
theorem Term_loop {d kc kr nd : Nat} (hsub : Spec x z sz b 2 d kc kr) (hnd : ndp 2 d + 1 ≤ nd) : ∀ (j : Nat) (I Iz : Nat → Nat → Int32) (t a e m n m0 n0 l3 f g : Nat) (φ : Row → Int32), sz < a + j → j < f → j < g → l3 < a → Ps x z sz b I Iz t a e m n → m ≤ a → n ≤ a → m0 ≤ m → n0 ≤ n → SegC (I (x + 3)) m0 m nd φ → SegR (Iz (z + 4)) n0 n φ → (false = true → ∀ f, φ f = 0 ∨ φ f = 1) → ∃ r l I1 Iz1, rd_readTermB_8 (rd_parse 2000 x kc) 2000 x (nI d) f 1 (nI l3) I = some (r, l, I1) ∧ r_readTermB_5 (r_parse 2000 z kr) 2000 z (nI d) g Iz = some Iz1 ∧ Out x z sz b I Iz a a m n m0 n0 nd false r I1 Iz1 := by
  intro j
  induction j with
  | zero =>
    intro I Iz t a e m n m0 n0 l3 f g φ hj hf hg hl h hm hn hmm hnn hs hr htr
    obtain ⟨p1, p2, p3, p4, p5⟩ := h.tk
    omega
  | succ j ih =>
    intro I Iz t a e m n m0 n0 l3 f g φ hj hf hg hl h hm hn hmm hnn hs hr htr
    obtain ⟨p1, p2, p3, p4, p5⟩ := h.tk
    obtain ⟨f, rfl⟩ : ∃ f', f = f' + 1 := ⟨f - 1, by omega⟩
    obtain ⟨g, rfl⟩ : ∃ f', g = f' + 1 := ⟨g - 1, by omega⟩
    rw [rd_readTermB_8, r_readTermB_5, if_neg (show ¬ (900 : Int32) ≤ nI l3 from nI_ge (b := 900) (by omega) (by decide)), if_neg (show ¬ (1 : Int32) = 0 by decide)]
    unfold r_eats
    by_cases c : t = 8
    · obtain ⟨I1, Iz1, g1, g2, r, I2, Iz2, g3, g4, u, I3, Iz3, g5, g6, g7⟩ := bin_go (op := 4) (c := 3002) (tr := false) hsub h (by omega) (by decide) hm hn hs hr (by decide) jb_4 (by decide) (Nat.le_refl nd) hnd (fun hh => by cases hh) hmm hnn
      have g5 : rd_emit I2 x 4 0 = _ := g5
      have g4 : r_parse 2000 z kr 0 (nI d) Iz1 = _ := g4
      rw [if_pos (show I (x + 2) 6 = 42 from h.isc c), g1, Option.bind_some]
      try dsimp only
      rw [g3, Option.bind_some]
      try dsimp only
      rw [g5, Option.bind_some]
      try dsimp only
      rw [show r_is Iz z 34 = 1 from h.isr (u := 8) (by decide) c, if_neg (show ¬ (1 : Int32) = 0 by decide), g2, Option.bind_some]
      try dsimp only
      rw [Option.bind_some]
      try dsimp only
      rw [if_neg (show ¬ (1 : Int32) = 0 by decide), g4, Option.bind_some]
      try dsimp only
      rw [g6, Option.bind_some, nI_1]
      try dsimp only
      obtain ⟨o1, o2, o3⟩ := g7
      rcases o3 with ⟨o3, o4⟩ | ⟨o3, t1, a1, e1, m1, n1, ψ, o4, o5, o6, o7, o8, o9, o10⟩
      · obtain ⟨f, rfl⟩ : ∃ f', f = f' + 1 := ⟨f - 1, by omega⟩
        obtain ⟨g, rfl⟩ : ∃ f', g = f' + 1 := ⟨g - 1, by omega⟩
        rw [o3, r_readTermB_5, o4.eats, rd_readTermB_8, if_neg (show ¬ (900 : Int32) ≤ nI (l3 + 1) from nI_ge (b := 900) (by omega) (by decide)), if_pos rfl]
        exact ⟨_, _, _, _, rfl, rfl, o1, o2, Or.inl ⟨rfl, o4⟩⟩
      · obtain ⟨r', l', I4, Iz4, i1, i2, i3⟩ := ih I3 Iz3 t1 a1 e1 m1 n1 m0 n0 (l3 + 1) f g ψ (by omega) (by omega) (by omega) (by omega) o4 (by omega) (by omega) (by omega) (by omega) o6 o7 o10
        rw [o3]
        exact ⟨r', l', I4, Iz4, i1, i2, i3.then o1 o2 rfl rfl o8 o9 (by omega)⟩
    · rw [if_neg (show ¬ I (x + 2) 6 = 42 from h.nsc (u := 8) (by decide) c), show r_is Iz z 34 = 0 from h.nsr (u := 8) (by decide) c, if_pos rfl, Option.bind_some]
      try dsimp only
      rw [if_pos rfl]
      exact ⟨_, _, _, _, rfl, rfl, Fpc.rf, Fpr.rf, Or.inr ⟨rfl, t, a, e, m, n, φ, h, by omega, hs, hr, fun _ _ => rfl, fun _ _ => rfl, htr⟩⟩
theorem Term_body {d kc kr : Nat} (hd : d ≤ 6) (hsub : Spec x z sz b 2 d kc kr) : Spec x z sz b 1 d (kc + 1) (kr + 1) := by
  intro I Iz t a e m n h hm hn _
  obtain ⟨p1, p2, p3, p4, p5⟩ := h.tk
  obtain ⟨r, I1, Iz1, g1, g2, g3, g4, g5⟩ := hsub I Iz t a e m n h hm hn (fun cc => absurd cc (by decide))
  have g2 : r_parse 2000 z kr 0 (nI d) Iz = _ := g2
  have e0 : rtag 1 = 2 := rfl
  rw [e0, rd_parse, r_parse]
  rw [if_neg (show ¬ (1 : Nat) = 0 by decide), if_pos rfl]
  rw [if_neg (show ¬ (2 : Nat) = 0 by decide), if_neg (show ¬ (2 : Nat) = 1 by decide), if_pos rfl]
  unfold rd_readTermB r_readTermB
  rw [g1, Option.bind_some]
  try dsimp only
  rw [g2, Option.bind_some]
  try dsimp only
  rcases g5 with ⟨g5, g6⟩ | ⟨g5, t1, a1, e1, m1, n1, φ, g6, g7, g8, g9, g10, g11, g12⟩
  · rw [g5]
    rw [rd_readTermB_8, if_neg (show ¬ (900 : Int32) ≤ 0 by decide), if_pos rfl, Option.bind_some]
    rw [r_readTermB_5, g6.eats, Option.bind_some]
    try dsimp only
    exact ⟨0, I1, Iz1, rfl, rfl, g3, g4, Or.inl ⟨rfl, g6⟩⟩
  · obtain ⟨q1, q2, q3, q4, q5⟩ := g6.tk
    obtain ⟨r', l', I4, Iz4, i1, i2, i3⟩ := Term_loop (nd := ndp 1 d) hsub (by unfold ndp; rw [show ([4, 3, 2, 1, 8, 7, 6] : List Nat).getD 2 0 = 2 from rfl, show ([4, 3, 2, 1, 8, 7, 6] : List Nat).getD 1 0 = 3 from rfl]; omega) 1000 I1 Iz1 t1 a1 e1 m1 n1 m n 0 2000 2000 φ (by omega) (by omega) (by omega) (by omega) g6 (by omega) (by omega) (by omega) (by omega) (g8.keep (fun _ _ _ => rfl) (by unfold ndp; rw [show ([4, 3, 2, 1, 8, 7, 6] : List Nat).getD 2 0 = 2 from rfl, show ([4, 3, 2, 1, 8, 7, 6] : List Nat).getD 1 0 = 3 from rfl]; omega)) g9 (fun hh => by cases hh)
    have i1 : rd_readTermB_8 (rd_parse 2000 x kc) 2000 x (nI d) 2000 1 0 I1 = _ := i1
    rw [g5, i1, Option.bind_some]
    try dsimp only
    rw [i2, Option.bind_some]
    have i4 := i3.then (aa := a + 1) (a := a) (m := m) (n := n) g3 g4 rfl rfl g10 g11 (by omega)
    refine ⟨r', I4, Iz4, ?_, rfl, i4⟩
    unfold isb
    rw [if_pos]
    rcases i3.2.2 with i5 | i5
    · exact Or.inl i5.1
    · exact Or.inr i5.1
theorem Both_loop {d kc kr nd : Nat} (hsub : Spec x z sz b 6 d kc kr) (hnd : ndp 6 d + 1 ≤ nd) : ∀ (j : Nat) (I Iz : Nat → Nat → Int32) (t a e m n m0 n0 l3 f g : Nat) (φ : Row → Int32), sz < a + j → j < f → j < g → l3 < a → Ps x z sz b I Iz t a e m n → m ≤ a → n ≤ a → m0 ≤ m → n0 ≤ n → SegC (I (x + 3)) m0 m nd φ → SegR (Iz (z + 4)) n0 n φ → (true = true → ∀ f, φ f = 0 ∨ φ f = 1) → ∃ r l I1 Iz1, rd_readBothB_8 (rd_parse 2000 x kc) 2000 x (nI d) f 1 (nI l3) I = some (r, l, I1) ∧ r_readBothB_5 (r_parse 2000 z kr) 2000 z (nI d) g Iz = some Iz1 ∧ Out x z sz b I Iz a a m n m0 n0 nd true r I1 Iz1 := by
  intro j
  induction j with
  | zero =>
    intro I Iz t a e m n m0 n0 l3 f g φ hj hf hg hl h hm hn hmm hnn hs hr htr
    obtain ⟨p1, p2, p3, p4, p5⟩ := h.tk
    omega
  | succ j ih =>
    intro I Iz t a e m n m0 n0 l3 f g φ hj hf hg hl h hm hn hmm hnn hs hr htr
    obtain ⟨p1, p2, p3, p4, p5⟩ := h.tk
    obtain ⟨f, rfl⟩ : ∃ f', f = f' + 1 := ⟨f - 1, by omega⟩
    obtain ⟨g, rfl⟩ : ∃ f', g = f' + 1 := ⟨g - 1, by omega⟩
    rw [rd_readBothB_8, r_readBothB_5, if_neg (show ¬ (900 : Int32) ≤ nI l3 from nI_ge (b := 900) (by omega) (by decide)), if_neg (show ¬ (1 : Int32) = 0 by decide)]
    unfold r_eats
    by_cases c : t = 34
    · obtain ⟨I1, Iz1, g1, g2, r, I2, Iz2, g3, g4, u, I3, Iz3, g5, g6, g7⟩ := bin_go (op := 8) (c := 3007) (tr := true) hsub h (by omega) (by decide) hm hn hs hr (by decide) jb_8 (by decide) (Nat.le_refl nd) hnd (fun _ ψ hψ f => bit_and (htr rfl f) (hψ (by decide) f)) hmm hnn
      have g5 : rd_emit I2 x 8 0 = _ := g5
      have g4 : r_parse 2000 z kr 4 (nI d) Iz1 = _ := g4
      rw [if_pos (show I (x + 2) 6 = 218 from h.isc c), g1, Option.bind_some]
      try dsimp only
      rw [g3, Option.bind_some]
      try dsimp only
      rw [g5, Option.bind_some]
      try dsimp only
      rw [show r_is Iz z 17 = 1 from h.isr (u := 34) (by decide) c, if_neg (show ¬ (1 : Int32) = 0 by decide), g2, Option.bind_some]
      try dsimp only
      rw [Option.bind_some]
      try dsimp only
      rw [if_neg (show ¬ (1 : Int32) = 0 by decide), g4, Option.bind_some]
      try dsimp only
      rw [g6, Option.bind_some, nI_1]
      try dsimp only
      obtain ⟨o1, o2, o3⟩ := g7
      rcases o3 with ⟨o3, o4⟩ | ⟨o3, t1, a1, e1, m1, n1, ψ, o4, o5, o6, o7, o8, o9, o10⟩
      · obtain ⟨f, rfl⟩ : ∃ f', f = f' + 1 := ⟨f - 1, by omega⟩
        obtain ⟨g, rfl⟩ : ∃ f', g = f' + 1 := ⟨g - 1, by omega⟩
        rw [o3, r_readBothB_5, o4.eats, rd_readBothB_8, if_neg (show ¬ (900 : Int32) ≤ nI (l3 + 1) from nI_ge (b := 900) (by omega) (by decide)), if_pos rfl]
        exact ⟨_, _, _, _, rfl, rfl, o1, o2, Or.inl ⟨rfl, o4⟩⟩
      · obtain ⟨r', l', I4, Iz4, i1, i2, i3⟩ := ih I3 Iz3 t1 a1 e1 m1 n1 m0 n0 (l3 + 1) f g ψ (by omega) (by omega) (by omega) (by omega) o4 (by omega) (by omega) (by omega) (by omega) o6 o7 o10
        rw [o3]
        exact ⟨r', l', I4, Iz4, i1, i2, i3.then o1 o2 rfl rfl o8 o9 (by omega)⟩
    · rw [if_neg (show ¬ I (x + 2) 6 = 218 from h.nsc (u := 34) (by decide) c), show r_is Iz z 17 = 0 from h.nsr (u := 34) (by decide) c, if_pos rfl, Option.bind_some]
      try dsimp only
      rw [if_pos rfl]
      exact ⟨_, _, _, _, rfl, rfl, Fpc.rf, Fpr.rf, Or.inr ⟨rfl, t, a, e, m, n, φ, h, by omega, hs, hr, fun _ _ => rfl, fun _ _ => rfl, htr⟩⟩
theorem Both_body {d kc kr : Nat} (hd : d ≤ 6) (hsub : Spec x z sz b 6 d kc kr) : Spec x z sz b 5 d (kc + 1) (kr + 1) := by
  intro I Iz t a e m n h hm hn _
  obtain ⟨p1, p2, p3, p4, p5⟩ := h.tk
  obtain ⟨r, I1, Iz1, g1, g2, g3, g4, g5⟩ := hsub I Iz t a e m n h hm hn (fun cc => absurd cc (by decide))
  have g2 : r_parse 2000 z kr 4 (nI d) Iz = _ := g2
  have e0 : rtag 5 = 5 := rfl
  rw [e0, rd_parse, r_parse]
  rw [if_neg (show ¬ (5 : Nat) = 0 by decide), if_neg (show ¬ (5 : Nat) = 1 by decide), if_neg (show ¬ (5 : Nat) = 2 by decide), if_neg (show ¬ (5 : Nat) = 3 by decide), if_neg (show ¬ (5 : Nat) = 4 by decide), if_pos rfl]
  rw [if_neg (show ¬ (5 : Nat) = 0 by decide), if_neg (show ¬ (5 : Nat) = 1 by decide), if_neg (show ¬ (5 : Nat) = 2 by decide), if_neg (show ¬ (5 : Nat) = 3 by decide), if_neg (show ¬ (5 : Nat) = 4 by decide), if_pos rfl]
  unfold rd_readBothB r_readBothB
  rw [g1, Option.bind_some]
  try dsimp only
  rw [g2, Option.bind_some]
  try dsimp only
  rcases g5 with ⟨g5, g6⟩ | ⟨g5, t1, a1, e1, m1, n1, φ, g6, g7, g8, g9, g10, g11, g12⟩
  · rw [g5]
    rw [rd_readBothB_8, if_neg (show ¬ (900 : Int32) ≤ 0 by decide), if_pos rfl, Option.bind_some]
    rw [r_readBothB_5, g6.eats, Option.bind_some]
    try dsimp only
    exact ⟨0, I1, Iz1, rfl, rfl, g3, g4, Or.inl ⟨rfl, g6⟩⟩
  · obtain ⟨q1, q2, q3, q4, q5⟩ := g6.tk
    obtain ⟨r', l', I4, Iz4, i1, i2, i3⟩ := Both_loop (nd := ndp 5 d) hsub (by unfold ndp; rw [show ([4, 3, 2, 1, 8, 7, 6] : List Nat).getD 6 0 = 6 from rfl, show ([4, 3, 2, 1, 8, 7, 6] : List Nat).getD 5 0 = 7 from rfl]; omega) 1000 I1 Iz1 t1 a1 e1 m1 n1 m n 0 2000 2000 φ (by omega) (by omega) (by omega) (by omega) g6 (by omega) (by omega) (by omega) (by omega) (g8.keep (fun _ _ _ => rfl) (by unfold ndp; rw [show ([4, 3, 2, 1, 8, 7, 6] : List Nat).getD 6 0 = 6 from rfl, show ([4, 3, 2, 1, 8, 7, 6] : List Nat).getD 5 0 = 7 from rfl]; omega)) g9 (fun hh => g12 (by decide))
    have i1 : rd_readBothB_8 (rd_parse 2000 x kc) 2000 x (nI d) 2000 1 0 I1 = _ := i1
    rw [g5, i1, Option.bind_some]
    try dsimp only
    rw [i2, Option.bind_some]
    have i4 := i3.then (aa := a + 1) (a := a) (m := m) (n := n) g3 g4 rfl rfl g10 g11 (by omega)
    refine ⟨r', I4, Iz4, ?_, rfl, i4⟩
    unfold isb
    rw [if_pos]
    rcases i3.2.2 with i5 | i5
    · exact Or.inl i5.1
    · exact Or.inr i5.1
theorem Truth_loop {d kc kr nd : Nat} (hsub : Spec x z sz b 5 d kc kr) (hnd : ndp 5 d + 1 ≤ nd) : ∀ (j : Nat) (I Iz : Nat → Nat → Int32) (t a e m n m0 n0 l3 f g : Nat) (φ : Row → Int32), sz < a + j → j < f → j < g → l3 < a → Ps x z sz b I Iz t a e m n → m ≤ a → n ≤ a → m0 ≤ m → n0 ≤ n → SegC (I (x + 3)) m0 m nd φ → SegR (Iz (z + 4)) n0 n φ → (true = true → ∀ f, φ f = 0 ∨ φ f = 1) → ∃ r l I1 Iz1, rd_readTruthB_8 (rd_parse 2000 x kc) 2000 x (nI d) f 1 (nI l3) I = some (r, l, I1) ∧ r_readTruthB_5 (r_parse 2000 z kr) 2000 z (nI d) g Iz = some Iz1 ∧ Out x z sz b I Iz a a m n m0 n0 nd true r I1 Iz1 := by
  intro j
  induction j with
  | zero =>
    intro I Iz t a e m n m0 n0 l3 f g φ hj hf hg hl h hm hn hmm hnn hs hr htr
    obtain ⟨p1, p2, p3, p4, p5⟩ := h.tk
    omega
  | succ j ih =>
    intro I Iz t a e m n m0 n0 l3 f g φ hj hf hg hl h hm hn hmm hnn hs hr htr
    obtain ⟨p1, p2, p3, p4, p5⟩ := h.tk
    obtain ⟨f, rfl⟩ : ∃ f', f = f' + 1 := ⟨f - 1, by omega⟩
    obtain ⟨g, rfl⟩ : ∃ f', g = f' + 1 := ⟨g - 1, by omega⟩
    rw [rd_readTruthB_8, r_readTruthB_5, if_neg (show ¬ (900 : Int32) ≤ nI l3 from nI_ge (b := 900) (by omega) (by decide)), if_neg (show ¬ (1 : Int32) = 0 by decide)]
    unfold r_eats
    by_cases c : t = 35
    · obtain ⟨I1, Iz1, g1, g2, r, I2, Iz2, g3, g4, u, I3, Iz3, g5, g6, g7⟩ := bin_go (op := 9) (c := 3008) (tr := true) hsub h (by omega) (by decide) hm hn hs hr (by decide) jb_9 (by decide) (Nat.le_refl nd) hnd (fun _ ψ hψ f => bit_or (htr rfl f) (hψ (by decide) f)) hmm hnn
      have g5 : rd_emit I2 x 9 0 = _ := g5
      have g4 : r_parse 2000 z kr 5 (nI d) Iz1 = _ := g4
      rw [if_pos (show I (x + 2) 6 = 219 from h.isc c), g1, Option.bind_some]
      try dsimp only
      rw [g3, Option.bind_some]
      try dsimp only
      rw [g5, Option.bind_some]
      try dsimp only
      rw [show r_is Iz z 18 = 1 from h.isr (u := 35) (by decide) c, if_neg (show ¬ (1 : Int32) = 0 by decide), g2, Option.bind_some]
      try dsimp only
      rw [Option.bind_some]
      try dsimp only
      rw [if_neg (show ¬ (1 : Int32) = 0 by decide), g4, Option.bind_some]
      try dsimp only
      rw [g6, Option.bind_some, nI_1]
      try dsimp only
      obtain ⟨o1, o2, o3⟩ := g7
      rcases o3 with ⟨o3, o4⟩ | ⟨o3, t1, a1, e1, m1, n1, ψ, o4, o5, o6, o7, o8, o9, o10⟩
      · obtain ⟨f, rfl⟩ : ∃ f', f = f' + 1 := ⟨f - 1, by omega⟩
        obtain ⟨g, rfl⟩ : ∃ f', g = f' + 1 := ⟨g - 1, by omega⟩
        rw [o3, r_readTruthB_5, o4.eats, rd_readTruthB_8, if_neg (show ¬ (900 : Int32) ≤ nI (l3 + 1) from nI_ge (b := 900) (by omega) (by decide)), if_pos rfl]
        exact ⟨_, _, _, _, rfl, rfl, o1, o2, Or.inl ⟨rfl, o4⟩⟩
      · obtain ⟨r', l', I4, Iz4, i1, i2, i3⟩ := ih I3 Iz3 t1 a1 e1 m1 n1 m0 n0 (l3 + 1) f g ψ (by omega) (by omega) (by omega) (by omega) o4 (by omega) (by omega) (by omega) (by omega) o6 o7 o10
        rw [o3]
        exact ⟨r', l', I4, Iz4, i1, i2, i3.then o1 o2 rfl rfl o8 o9 (by omega)⟩
    · rw [if_neg (show ¬ I (x + 2) 6 = 219 from h.nsc (u := 35) (by decide) c), show r_is Iz z 18 = 0 from h.nsr (u := 35) (by decide) c, if_pos rfl, Option.bind_some]
      try dsimp only
      rw [if_pos rfl]
      exact ⟨_, _, _, _, rfl, rfl, Fpc.rf, Fpr.rf, Or.inr ⟨rfl, t, a, e, m, n, φ, h, by omega, hs, hr, fun _ _ => rfl, fun _ _ => rfl, htr⟩⟩
theorem Truth_body {d kc kr : Nat} (hd : d ≤ 6) (hsub : Spec x z sz b 5 d kc kr) : Spec x z sz b 4 d (kc + 1) (kr + 1) := by
  intro I Iz t a e m n h hm hn _
  obtain ⟨p1, p2, p3, p4, p5⟩ := h.tk
  obtain ⟨r, I1, Iz1, g1, g2, g3, g4, g5⟩ := hsub I Iz t a e m n h hm hn (fun cc => absurd cc (by decide))
  have g2 : r_parse 2000 z kr 5 (nI d) Iz = _ := g2
  have e0 : rtag 4 = 6 := rfl
  rw [e0, rd_parse, r_parse]
  rw [if_neg (show ¬ (4 : Nat) = 0 by decide), if_neg (show ¬ (4 : Nat) = 1 by decide), if_neg (show ¬ (4 : Nat) = 2 by decide), if_neg (show ¬ (4 : Nat) = 3 by decide), if_pos rfl]
  rw [if_neg (show ¬ (6 : Nat) = 0 by decide), if_neg (show ¬ (6 : Nat) = 1 by decide), if_neg (show ¬ (6 : Nat) = 2 by decide), if_neg (show ¬ (6 : Nat) = 3 by decide), if_neg (show ¬ (6 : Nat) = 4 by decide), if_neg (show ¬ (6 : Nat) = 5 by decide)]
  unfold rd_readTruthB r_readTruthB
  rw [g1, Option.bind_some]
  try dsimp only
  rw [g2, Option.bind_some]
  try dsimp only
  rcases g5 with ⟨g5, g6⟩ | ⟨g5, t1, a1, e1, m1, n1, φ, g6, g7, g8, g9, g10, g11, g12⟩
  · rw [g5]
    rw [rd_readTruthB_8, if_neg (show ¬ (900 : Int32) ≤ 0 by decide), if_pos rfl, Option.bind_some]
    rw [r_readTruthB_5, g6.eats, Option.bind_some]
    try dsimp only
    exact ⟨0, I1, Iz1, rfl, rfl, g3, g4, Or.inl ⟨rfl, g6⟩⟩
  · obtain ⟨q1, q2, q3, q4, q5⟩ := g6.tk
    obtain ⟨r', l', I4, Iz4, i1, i2, i3⟩ := Truth_loop (nd := ndp 4 d) hsub (by unfold ndp; rw [show ([4, 3, 2, 1, 8, 7, 6] : List Nat).getD 5 0 = 7 from rfl, show ([4, 3, 2, 1, 8, 7, 6] : List Nat).getD 4 0 = 8 from rfl]; omega) 1000 I1 Iz1 t1 a1 e1 m1 n1 m n 0 2000 2000 φ (by omega) (by omega) (by omega) (by omega) g6 (by omega) (by omega) (by omega) (by omega) (g8.keep (fun _ _ _ => rfl) (by unfold ndp; rw [show ([4, 3, 2, 1, 8, 7, 6] : List Nat).getD 5 0 = 7 from rfl, show ([4, 3, 2, 1, 8, 7, 6] : List Nat).getD 4 0 = 8 from rfl]; omega)) g9 (fun hh => g12 (by decide))
    have i1 : rd_readTruthB_8 (rd_parse 2000 x kc) 2000 x (nI d) 2000 1 0 I1 = _ := i1
    rw [g5, i1, Option.bind_some]
    try dsimp only
    rw [i2, Option.bind_some]
    have i4 := i3.then (aa := a + 1) (a := a) (m := m) (n := n) g3 g4 rfl rfl g10 g11 (by omega)
    refine ⟨r', I4, Iz4, ?_, rfl, i4⟩
    unfold isb
    rw [if_pos]
    rcases i3.2.2 with i5 | i5
    · exact Or.inl i5.1
    · exact Or.inr i5.1
theorem Sum_loop {d kc kr nd : Nat} (hsub : Spec x z sz b 1 d kc kr) (hnd : ndp 1 d + 1 ≤ nd) : ∀ (j : Nat) (I Iz : Nat → Nat → Int32) (t a e m n m0 n0 l3 f g : Nat) (φ : Row → Int32), sz < a + j → j < f → j < g → l3 < a → Ps x z sz b I Iz t a e m n → m ≤ a → n ≤ a → m0 ≤ m → n0 ≤ n → SegC (I (x + 3)) m0 m nd φ → SegR (Iz (z + 4)) n0 n φ → (false = true → ∀ f, φ f = 0 ∨ φ f = 1) → ∃ r l I1 Iz1, rd_readSumB_8 (rd_parse 2000 x kc) 2000 x (nI d) f 1 (nI l3) I = some (r, l, I1) ∧ r_readSumB_5 (r_parse 2000 z kr) 2000 z (nI d) g Iz = some Iz1 ∧ Out x z sz b I Iz a a m n m0 n0 nd false r I1 Iz1 := by
  intro j
  induction j with
  | zero =>
    intro I Iz t a e m n m0 n0 l3 f g φ hj hf hg hl h hm hn hmm hnn hs hr htr
    obtain ⟨p1, p2, p3, p4, p5⟩ := h.tk
    omega
  | succ j ih =>
    intro I Iz t a e m n m0 n0 l3 f g φ hj hf hg hl h hm hn hmm hnn hs hr htr
    obtain ⟨p1, p2, p3, p4, p5⟩ := h.tk
    obtain ⟨f, rfl⟩ : ∃ f', f = f' + 1 := ⟨f - 1, by omega⟩
    obtain ⟨g, rfl⟩ : ∃ f', g = f' + 1 := ⟨g - 1, by omega⟩
    rw [rd_readSumB_8, r_readSumB_5, if_neg (show ¬ (900 : Int32) ≤ nI l3 from nI_ge (b := 900) (by omega) (by decide)), if_neg (show ¬ (1 : Int32) = 0 by decide)]
    have fin : ∀ (r : Int32) (I3 Iz3 : Nat → Nat → Int32), t ≠ 0 → Out x z sz b I Iz (a + 1) a m n m0 n0 nd false r I3 Iz3 → ∃ r' l I1 Iz1, rd_readSumB_8 (rd_parse 2000 x kc) 2000 x (nI d) f r (nI (l3 + 1)) I3 = some (r', l, I1) ∧ r_readSumB_5 (r_parse 2000 z kr) 2000 z (nI d) g Iz3 = some Iz1 ∧ Out x z sz b I Iz a a m n m0 n0 nd false r' I1 Iz1 := fun r I3 Iz3 hz g7 => by
      have hz := p5 hz
      obtain ⟨o1, o2, o3⟩ := g7
      rcases o3 with ⟨o3, o4⟩ | ⟨o3, t1, a1, e1, m1, n1, ψ, o4, o5, o6, o7, o8, o9, o10⟩
      · obtain ⟨f, rfl⟩ : ∃ f', f = f' + 1 := ⟨f - 1, by omega⟩
        obtain ⟨g, rfl⟩ : ∃ f', g = f' + 1 := ⟨g - 1, by omega⟩
        rw [o3, r_readSumB_5, o4.is, if_pos rfl, o4.is, if_pos rfl, rd_readSumB_8, if_neg (show ¬ (900 : Int32) ≤ nI (l3 + 1) from nI_ge (b := 900) (by omega) (by decide)), if_pos rfl]
        exact ⟨_, _, _, _, rfl, rfl, o1, o2, Or.inl ⟨rfl, o4⟩⟩
      · obtain ⟨r', l', I4, Iz4, i1, i2, i3⟩ := ih I3 Iz3 t1 a1 e1 m1 n1 m0 n0 (l3 + 1) f g ψ (by omega) (by omega) (by omega) (by omega) o4 (by omega) (by omega) (by omega) (by omega) o6 o7 o10
        rw [o3]
        exact ⟨r', l', I4, Iz4, i1, i2, i3.then o1 o2 rfl rfl o8 o9 (by omega)⟩
    by_cases c : t = 6
    · obtain ⟨I1, Iz1, g1, g2, r, I2, Iz2, g3, g4, u, I3, Iz3, g5, g6, g7⟩ := bin_go (op := 2) (c := 3000) (tr := false) hsub h (by omega) (by decide) hm hn hs hr (by decide) jb_2 (by decide) (Nat.le_refl nd) hnd (fun hh => by cases hh) hmm hnn
      have g5 : rd_emit I2 x 2 0 = _ := g5
      have g4 : r_parse 2000 z kr 2 (nI d) Iz1 = _ := g4
      rw [if_pos (show I (x + 2) 6 = 43 from h.isc c), if_pos (show I (x + 2) 6 = 43 from h.isc c), g1, Option.bind_some]
      try dsimp only
      rw [g3, Option.bind_some]
      try dsimp only
      rw [g5, Option.bind_some]
      try dsimp only
      rw [show r_is Iz z 32 = 1 from h.isr (u := 6) (by decide) c, if_neg (show ¬ (1 : Int32) = 0 by decide), if_pos (show Iz z 9 = 32 by rw [h.kr, c]; rfl), g2, Option.bind_some]
      try dsimp only
      rw [g4, Option.bind_some]
      try dsimp only
      rw [g6, Option.bind_some, nI_1]
      exact fin r I3 Iz3 (by omega) g7
    · by_cases c2 : t = 7
      · obtain ⟨I1, Iz1, g1, g2, r, I2, Iz2, g3, g4, u, I3, Iz3, g5, g6, g7⟩ := bin_go (op := 3) (c := 3001) (tr := false) hsub h (by omega) (by decide) hm hn hs hr (by decide) jb_3 (by decide) (Nat.le_refl nd) hnd (fun hh => by cases hh) hmm hnn
        have g5 : rd_emit I2 x 3 0 = _ := g5
        have g4 : r_parse 2000 z kr 2 (nI d) Iz1 = _ := g4
        rw [if_neg (show ¬ I (x + 2) 6 = 43 from h.nsc (u := 6) (by decide) c), if_pos (show I (x + 2) 6 = 45 from h.isc c2), if_neg (show ¬ I (x + 2) 6 = 43 from h.nsc (u := 6) (by decide) c), g1, Option.bind_some]
        try dsimp only
        rw [g3, Option.bind_some]
        try dsimp only
        rw [g5, Option.bind_some]
        try dsimp only
        rw [show r_is Iz z 32 = 0 from h.nsr (u := 6) (by decide) c, if_pos rfl, show r_is Iz z 33 = 1 from h.isr (u := 7) (by decide) c2, if_neg (show ¬ (1 : Int32) = 0 by decide), if_neg (show ¬ Iz z 9 = 32 by rw [h.kr, c2]; decide), g2, Option.bind_some]
        try dsimp only
        rw [g4, Option.bind_some]
        try dsimp only
        rw [g6, Option.bind_some, nI_1]
        exact fin r I3 Iz3 (by omega) g7
      · rw [if_neg (show ¬ I (x + 2) 6 = 43 from h.nsc (u := 6) (by decide) c), if_neg (show ¬ I (x + 2) 6 = 45 from h.nsc (u := 7) (by decide) c2), show r_is Iz z 32 = 0 from h.nsr (u := 6) (by decide) c, if_pos rfl, show r_is Iz z 33 = 0 from h.nsr (u := 7) (by decide) c2, if_pos rfl]
        exact ⟨_, _, _, _, rfl, rfl, Fpc.rf, Fpr.rf, Or.inr ⟨rfl, t, a, e, m, n, φ, h, by omega, hs, hr, fun _ _ => rfl, fun _ _ => rfl, htr⟩⟩
theorem Sum_body {d kc kr : Nat} (hd : d ≤ 6) (hsub : Spec x z sz b 1 d kc kr) : Spec x z sz b 0 d (kc + 1) (kr + 1) := by
  intro I Iz t a e m n h hm hn _
  obtain ⟨p1, p2, p3, p4, p5⟩ := h.tk
  obtain ⟨r, I1, Iz1, g1, g2, g3, g4, g5⟩ := hsub I Iz t a e m n h hm hn (fun cc => absurd cc (by decide))
  have g2 : r_parse 2000 z kr 2 (nI d) Iz = _ := g2
  have e0 : rtag 0 = 3 := rfl
  rw [e0, rd_parse, r_parse]
  rw [if_pos rfl]
  rw [if_neg (show ¬ (3 : Nat) = 0 by decide), if_neg (show ¬ (3 : Nat) = 1 by decide), if_neg (show ¬ (3 : Nat) = 2 by decide), if_pos rfl]
  unfold rd_readSumB r_readSumB
  rw [g1, Option.bind_some]
  try dsimp only
  rw [g2, Option.bind_some]
  try dsimp only
  rcases g5 with ⟨g5, g6⟩ | ⟨g5, t1, a1, e1, m1, n1, φ, g6, g7, g8, g9, g10, g11, g12⟩
  · rw [g5]
    rw [rd_readSumB_8, if_neg (show ¬ (900 : Int32) ≤ 0 by decide), if_pos rfl, Option.bind_some]
    rw [r_readSumB_5, g6.is, if_pos rfl, g6.is, if_pos rfl, Option.bind_some]
    try dsimp only
    exact ⟨0, I1, Iz1, rfl, rfl, g3, g4, Or.inl ⟨rfl, g6⟩⟩
  · obtain ⟨q1, q2, q3, q4, q5⟩ := g6.tk
    obtain ⟨r', l', I4, Iz4, i1, i2, i3⟩ := Sum_loop (nd := ndp 0 d) hsub (by unfold ndp; rw [show ([4, 3, 2, 1, 8, 7, 6] : List Nat).getD 1 0 = 3 from rfl, show ([4, 3, 2, 1, 8, 7, 6] : List Nat).getD 0 0 = 4 from rfl]; omega) 1000 I1 Iz1 t1 a1 e1 m1 n1 m n 0 2000 2000 φ (by omega) (by omega) (by omega) (by omega) g6 (by omega) (by omega) (by omega) (by omega) (g8.keep (fun _ _ _ => rfl) (by unfold ndp; rw [show ([4, 3, 2, 1, 8, 7, 6] : List Nat).getD 1 0 = 3 from rfl, show ([4, 3, 2, 1, 8, 7, 6] : List Nat).getD 0 0 = 4 from rfl]; omega)) g9 (fun hh => by cases hh)
    have i1 : rd_readSumB_8 (rd_parse 2000 x kc) 2000 x (nI d) 2000 1 0 I1 = _ := i1
    rw [g5, i1, Option.bind_some]
    try dsimp only
    rw [i2, Option.bind_some]
    have i4 := i3.then (aa := a + 1) (a := a) (m := m) (n := n) g3 g4 rfl rfl g10 g11 (by omega)
    refine ⟨r', I4, Iz4, ?_, rfl, i4⟩
    unfold isb
    rw [if_pos]
    rcases i3.2.2 with i5 | i5
    · exact Or.inl i5.1
    · exact Or.inr i5.1
end
