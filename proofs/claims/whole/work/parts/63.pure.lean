/-! the fewest chairs: the whole search, on both sides -/
theorem ne_m1 : ∀ l, l < 64 → nI l ≠ -1 := by decide +kernel
/-- the set found: the fewest, of these the least number; -1 if none is -/
def Bst (V : Nat → Bool) (m : Nat) (b : Int32) : Prop := (b = -1 ∧ ∀ r, r < m → V r = false) ∨ ∃ s, s < m ∧ b = nI s ∧ V s = true ∧ ∀ r, r < m → V r = true → pcn s < pcn r ∨ (pcn s = pcn r ∧ s ≤ r)
theorem Bst.uniq {V : Nat → Bool} {m : Nat} {b b' : Int32} (hm : m ≤ 64) (h : Bst V m b) (h' : Bst V m b') : b = b' := by
  rcases h with ⟨rfl, h⟩ | ⟨s, hs, rfl, v, h⟩ <;> rcases h' with ⟨rfl, h'⟩ | ⟨s', hs', rfl, v', h'⟩
  · rfl
  · rw [h s' hs'] at v'; exact absurd v' (by decide)
  · rw [h' s hs] at v; exact absurd v (by decide)
  · have a := h s' hs' v'
    have b := h' s hs v
    have : s = s' := by omega
    rw [this]
theorem Bst.more {V : Nat → Bool} {m m' : Nat} {b : Int32} (h : Bst V m b) (hm : m ≤ m') (h0 : ∀ r, m ≤ r → r < m' → V r = false) : Bst V m' b := by
  rcases h with ⟨rfl, h⟩ | ⟨s, hs, rfl, v, h⟩
  · refine Or.inl ⟨rfl, fun r hr => ?_⟩
    by_cases c : r < m
    · exact h r c
    · exact h0 r (by omega) hr
  · refine Or.inr ⟨s, by omega, rfl, v, fun r hr vr => ?_⟩
    by_cases c : r < m
    · exact h r c vr
    · rw [h0 r (by omega) hr] at vr; exact absurd vr (by decide)
section
variable {T : Nat → Option (Nat × Nat)} {I : Nat → Nat → Int32} {J : Nat → Nat → Int64} {P : Nat → Nat → Option Nat} {x nn c : Nat} {Iz : Nat → Nat → Int32} {Jz : Nat → Nat → Int64} {z N n u tn : Nat} {LT LP : Row → Int32} {d na v e : Nat}
theorem cset_is (h : InvS T I J P x nn c Iz Jz z N n u tn LT LP d na v) (hN : N < 600) {I1 : Nat → Nat → Int32} {t m p s : Nat} {tl : Nat → Nat} {Iz1 : Nat → Nat → Int32} (hx : Tx I I1 x c) (hNg : Ngt I1 x Iz1 Jz z t m tn tl) (hz : Iz1 (z + 1) = Iz (z + 1)) (hp : p < n) (hs : s < 64) :
    ∃ I2, x_lastBySeating 2000 T I1 P x c (nI p) (nI s) = some (b2 (chairQ LT LP (Iz (z + 1)) n u m tl p s), I2) ∧ Tx I I2 x c ∧ Ngt I2 x Iz1 Jz z t m tn tl := by
  obtain ⟨I2, IzA, IzB, pc, a1, a2, a3, -, -, -, -, -, fr⟩ := set_is (h1 := 0) (h2 := 0) (h3 := 0) (h4 := 0) (h5 := 0) (h6 := 0) h hN hx hNg hz hp hs
  exact ⟨I2, a1, a2, a3.fx rfl rfl (fr.1 _ (by omega) (by omega) (by omega) (by omega) (by omega)).symm⟩
theorem zset_is (h : InvS T I J P x nn c Iz Jz z N n u tn LT LP d na v) (hN : N < 600) {I1 : Nat → Nat → Int32} {t m p s : Nat} {tl : Nat → Nat} {Iz1 : Nat → Nat → Int32} (hx : Tx I I1 x c) (hNg : Ngt I1 x Iz1 Jz z t m tn tl) (hK : Kz Iz Iz1 z) (hp : p < n) (hs : s < 64) {h1 h2 h3 h4 h5 h6 : Int32} :
    ∃ IzA IzB pc Iz2, r_chairs_98 2000 z h1 h2 h3 h4 h5 h6 (nI s) 2000 0 Iz1 = some (nI n, IzA) ∧ IzA (z + 19) t = nI m ∧ r_goes 2000 IzA Jz z (nI t) 0 (nI m) = some IzB ∧ r_placeOf 2000 IzB z (nI p) = some pc ∧ (pc = 0 ↔ chairQ LT LP (Iz (z + 1)) n u m tl p s = true) ∧ r_isAgain 2000 IzB z = some Iz2 ∧ Kz Iz Iz2 z ∧ Ngt I1 x Iz2 Jz z t m tn tl := by
  obtain ⟨I2, IzA, IzB, pc, -, -, -, a4, a5, a6, a7, a8, fr⟩ := set_is (h1 := h1) (h2 := h2) (h3 := h3) (h4 := h4) (h5 := h5) (h6 := h6) h hN hx hNg hK.2.1 hp hs
  obtain ⟨Iz2, k2, K2⟩ := kz_back hK fr
  exact ⟨IzA, IzB, pc, Iz2, a4, a5, a6, a7, a8, k2, K2, hNg.fx rfl rfl (by rw [K2.n19, hK.n19])⟩
theorem fc_in (h : InvS T I J P x nn c Iz Jz z N n u tn LT LP d na v) (hN : N < 600) {t m p o k : Nat} {tl : Nat → Nat} {Iz1 : Nat → Nat → Int32} (hz : Iz1 (z + 1) = Iz (z + 1)) (hp : p < n) (ho : o < 64) (hk : k < 6) : ∀ (j s f : Nat) (I1 : Nat → Nat → Int32), s + j = 64 → j < f → Tx I I1 x c → Ngt I1 x Iz1 Jz z t m tn tl →
    (∃ I2, x_fewestChairs_25 2000 T P x c (nI p) (nI o) (nI k) f (nI s) I1 = some (.inr (nI 64, I2)) ∧ Tx I I2 x c ∧ Ngt I2 x Iz1 Jz z t m tn tl ∧ ∀ r, s ≤ r → r < 64 → pcn r = k → (subs r o && chairQ LT LP (Iz (z + 1)) n u m tl p r) = false) ∨
    (∃ r I2, x_fewestChairs_25 2000 T P x c (nI p) (nI o) (nI k) f (nI s) I1 = some (.inl (nI r, I2)) ∧ Tx I I2 x c ∧ s ≤ r ∧ r < 64 ∧ pcn r = k ∧ (subs r o && chairQ LT LP (Iz (z + 1)) n u m tl p r) = true ∧ ∀ q, s ≤ q → q < r → pcn q = k → (subs q o && chairQ LT LP (Iz (z + 1)) n u m tl p q) = false) := by
  intro j
  induction j with
  | zero =>
    intro s f I1 hs hf hx hNg
    obtain ⟨f, rfl⟩ : ∃ f', f = f' + 1 := ⟨f - 1, by omega⟩
    obtain rfl : s = 64 := by omega
    refine Or.inl ⟨I1, ?_, hx, hNg, fun r a b => absurd a (by omega)⟩
    rw [x_fewestChairs_25, if_pos (by decide)]
  | succ j ih =>
    intro s f I1 hs hf hx hNg
    obtain ⟨f, rfl⟩ : ∃ f', f = f' + 1 := ⟨f - 1, by omega⟩
    have step : ∀ I3, Tx I I3 x c → Ngt I3 x Iz1 Jz z t m tn tl → (pcn s = k → (subs s o && chairQ LT LP (Iz (z + 1)) n u m tl p s) = false) →
      (∃ I2, x_fewestChairs_25 2000 T P x c (nI p) (nI o) (nI k) f (nI (s + 1)) I3 = some (.inr (nI 64, I2)) ∧ Tx I I2 x c ∧ Ngt I2 x Iz1 Jz z t m tn tl ∧ ∀ r, s ≤ r → r < 64 → pcn r = k → (subs r o && chairQ LT LP (Iz (z + 1)) n u m tl p r) = false) ∨
      (∃ r I2, x_fewestChairs_25 2000 T P x c (nI p) (nI o) (nI k) f (nI (s + 1)) I3 = some (.inl (nI r, I2)) ∧ Tx I I2 x c ∧ s ≤ r ∧ r < 64 ∧ pcn r = k ∧ (subs r o && chairQ LT LP (Iz (z + 1)) n u m tl p r) = true ∧ ∀ q, s ≤ q → q < r → pcn q = k → (subs q o && chairQ LT LP (Iz (z + 1)) n u m tl p q) = false) := by
      intro I3 hx3 hN3 h0
      rcases ih (s + 1) f I3 (by omega) (by omega) hx3 hN3 with ⟨I2, a1, a2, a3, a4⟩ | ⟨r, I2, a1, a2, a3, a4, a5, a6, a7⟩
      · refine Or.inl ⟨I2, a1, a2, a3, fun r b1 b2 b3 => ?_⟩
        by_cases e : r = s
        · subst e; exact h0 b3
        · exact a4 r (by omega) b2 b3
      · refine Or.inr ⟨r, I2, a1, a2, by omega, a4, a5, a6, fun q b1 b2 b3 => ?_⟩
        by_cases e : q = s
        · subst e; exact h0 b3
        · exact a7 q (by omega) b2 b3
    rw [x_fewestChairs_25, if_neg (show ¬ (64 : Int32) ≤ nI s from nI_ge (b := 64) (by omega) (by omega)), bitCount_tab s (by omega), nI_1]
    by_cases c1 : pcn s = k
    · rw [if_pos (show nI (pcn s) = nI k by rw [c1])]
      cases hsb : subs s o with
      | false =>
        rw [if_neg (show ¬ (nI s &&& (nI o ^^^ (-1))) = 0 from of_decide_eq_false hsb)]
        have := step I1 hx hNg (fun _ => by rw [hsb]; rfl)
        exact this
      | true =>
        rw [if_pos (show (nI s &&& (nI o ^^^ (-1))) = 0 from of_decide_eq_true hsb)]
        obtain ⟨I2, a1, a2, a3⟩ := cset_is h hN hx hNg hz hp (show s < 64 by omega)
        rw [a1, Option.bind_some]
        try dsimp only
        cases hq : chairQ LT LP (Iz (z + 1)) n u m tl p s with
        | false =>
          rw [if_pos (show b2 false = 0 from rfl)]
          exact step I2 a2 a3 (fun _ => by rw [hq, Bool.and_false])
        | true =>
          rw [if_neg (show ¬ b2 true = 0 by decide)]
          exact Or.inr ⟨s, I2, rfl, a2, Nat.le_refl _, by omega, c1, by rw [hsb, hq]; rfl, fun q b1 b2 => absurd b1 (by omega)⟩
    · rw [if_neg (show ¬ nI (pcn s) = nI k from fun cc => c1 ((nI_eq (by have := pcn_le s (by omega); omega) (by omega)).mp cc))]
      exact step I1 hx hNg (fun cc => absurd cc c1)
theorem fc_out (h : InvS T I J P x nn c Iz Jz z N n u tn LT LP d na v) (hN : N < 600) {t m p o : Nat} {tl : Nat → Nat} {Iz1 : Nat → Nat → Int32} (hz : Iz1 (z + 1) = Iz (z + 1)) (hp : p < n) (ho : o < 64) : ∀ (j k f : Nat) (I1 : Nat → Nat → Int32), k + j = 6 → j < f → Tx I I1 x c → Ngt I1 x Iz1 Jz z t m tn tl → (∀ r, r < 64 → pcn r < k → (subs r o && chairQ LT LP (Iz (z + 1)) n u m tl p r) = false) →
    (∃ I2, x_fewestChairs_16 2000 T P x c (nI p) (nI o) f (nI k) I1 = some (.inr (nI 6, I2)) ∧ Tx I I2 x c ∧ ∀ r, r < 64 → pcn r < 6 → (subs r o && chairQ LT LP (Iz (z + 1)) n u m tl p r) = false) ∨
    (∃ r I2, x_fewestChairs_16 2000 T P x c (nI p) (nI o) f (nI k) I1 = some (.inl (nI r, I2)) ∧ Tx I I2 x c ∧ Bst (fun s => subs s o && chairQ LT LP (Iz (z + 1)) n u m tl p s) 64 (nI r) ∧ r < 64) := by
  intro j
  induction j with
  | zero =>
    intro k f I1 hk hf hx hNg h0
    obtain ⟨f, rfl⟩ : ∃ f', f = f' + 1 := ⟨f - 1, by omega⟩
    obtain rfl : k = 6 := by omega
    refine Or.inl ⟨I1, ?_, hx, h0⟩
    rw [x_fewestChairs_16, if_pos (by decide)]
  | succ j ih =>
    intro k f I1 hk hf hx hNg h0
    obtain ⟨f, rfl⟩ : ∃ f', f = f' + 1 := ⟨f - 1, by omega⟩
    rw [x_fewestChairs_16, if_neg (show ¬ (6 : Int32) ≤ nI k from nI_ge (b := 6) (by omega) (by omega))]
    rcases fc_in h hN hz hp ho (show k < 6 by omega) 64 0 2000 I1 (by omega) (by omega) hx hNg with ⟨I2, a1, a2, a3, a4⟩ | ⟨r, I2, a1, a2, a3, a4, a5, a6, a7⟩
    · have a1 : x_fewestChairs_25 2000 T P x c (nI p) (nI o) (nI k) 2000 0 I1 = _ := a1
      rw [a1, Option.bind_some]
      try dsimp only
      rw [nI_1]
      refine ih (k + 1) f I2 (by omega) (by omega) a2 a3 (fun r b1 b2 => ?_)
      by_cases e : pcn r = k
      · exact a4 r (by omega) b1 e
      · exact h0 r b1 (by omega)
    · have a1 : x_fewestChairs_25 2000 T P x c (nI p) (nI o) (nI k) 2000 0 I1 = _ := a1
      rw [a1, Option.bind_some]
      refine Or.inr ⟨r, I2, rfl, a2, Or.inr ⟨r, a4, rfl, a6, fun q b1 b2 => ?_⟩, a4⟩
      by_cases e1 : pcn q < k
      · have := h0 q b1 e1
        have b2 : (subs q o && chairQ LT LP (Iz (z + 1)) n u m tl p q) = true := b2
        rw [this] at b2
        exact absurd b2 (by decide)
      · by_cases e2 : pcn q = k
        · refine Or.inr ⟨by omega, ?_⟩
          by_cases e3 : q < r
          · have b2 : (subs q o && chairQ LT LP (Iz (z + 1)) n u m tl p q) = true := b2
            rw [a7 q (by omega) e3 e2] at b2
            exact absurd b2 (by decide)
          · omega
        · exact Or.inl (by omega)
theorem rc_go (h : InvS T I J P x nn c Iz Jz z N n u tn LT LP d na v) (hN : N < 600) {I1 : Nat → Nat → Int32} {t m p o : Nat} {tl : Nat → Nat} (hx : Tx I I1 x c) (hp : p < n) (ho : o < 64) {g3 g4 : Int32} : ∀ (j l g : Nat) (b : Int32) (Iz1 : Nat → Nat → Int32), l + j = o + 1 → j < g → Kz Iz Iz1 z → Ngt I1 x Iz1 Jz z t m tn tl → Bst (fun s => subs s o && chairQ LT LP (Iz (z + 1)) n u m tl p s) l b →
    ∃ b' Iz2, r_chairs_56 2000 Jz z (nI t) (nI p) g3 g4 (nI o) g b (nI l) Iz1 = some (b', nI (o + 1), Iz2) ∧ Kz Iz Iz2 z ∧ Bst (fun s => subs s o && chairQ LT LP (Iz (z + 1)) n u m tl p s) (o + 1) b' := by
  intro j
  induction j with
  | zero =>
    intro l g b Iz1 hl hg hK hNg hB
    obtain ⟨g, rfl⟩ : ∃ f', g = f' + 1 := ⟨g - 1, by omega⟩
    obtain rfl : l = o + 1 := by omega
    refine ⟨b, Iz1, ?_, hK, hB⟩
    rw [r_chairs_56, if_pos (show nI o < nI (o + 1) from (nI_ltI (by omega) (by omega)).mpr (by omega))]
  | succ j ih =>
    intro l g b Iz1 hl hg hK hNg hB
    obtain ⟨g, rfl⟩ : ∃ f', g = f' + 1 := ⟨g - 1, by omega⟩
    have ht := hNg.1
    have hno : (subs l o && chairQ LT LP (Iz (z + 1)) n u m tl p l) = false → Bst (fun s => subs s o && chairQ LT LP (Iz (z + 1)) n u m tl p s) (l + 1) b := fun h0 => hB.more (by omega) (fun r r1 r2 => by
      obtain rfl : r = l := by omega
      exact h0)
    rw [r_chairs_56, if_neg (show ¬ nI o < nI l from fun cc => by have := (nI_ltI (by omega) (by omega)).mp cc; omega), nI_1]
    cases hsb : subs l o with
    | false =>
      rw [if_neg (show ¬ (nI l &&& (nI o ^^^ (-1))) = 0 from of_decide_eq_false hsb)]
      exact ih (l + 1) g b Iz1 (by omega) (by omega) hK hNg (hno (by rw [hsb]; rfl))
    | true =>
      rw [if_pos (show (nI l &&& (nI o ^^^ (-1))) = 0 from of_decide_eq_true hsb)]
      by_cases cb : b = -1
      · rw [if_pos cb]
        obtain ⟨IzA, IzB, pc, Iz2, a1, a2, a3, a4, a5, a6, a7, a8⟩ := zset_is (h1 := nI t) (h2 := nI p) (h3 := g3) (h4 := g4) (h5 := nI o) (h6 := b) h hN hx hNg hK hp (show l < 64 by omega)
        rw [a1, Option.bind_some]
        try dsimp only
        rw [chk_nI ht (by decide), nI_cl (by omega), a2, a3, Option.bind_some]
        try dsimp only
        rw [a4, Option.bind_some]
        try dsimp only
        rw [a6, Option.bind_some]
        try dsimp only
        cases hq : chairQ LT LP (Iz (z + 1)) n u m tl p l with
        | true =>
          rw [if_pos (a5.mpr hq)]
          refine ih (l + 1) g (nI l) Iz2 (by omega) (by omega) a7 a8 (Or.inr ⟨l, by omega, rfl, by show (subs l o && chairQ LT LP (Iz (z + 1)) n u m tl p l) = true; rw [hsb, hq]; rfl, fun r r1 r2 => ?_⟩)
          rcases hB with ⟨-, hB⟩ | ⟨s, hs, rfl, -⟩
          · by_cases e : r = l
            · subst e; exact Or.inr ⟨rfl, Nat.le_refl _⟩
            · rw [hB r (by omega)] at r2; exact absurd r2 (by decide)
          · exact absurd cb (ne_m1 s (by omega))
        | false =>
          rw [if_neg (fun cc => by have := a5.mp cc; rw [hq] at this; exact absurd this (by decide))]
          exact ih (l + 1) g b Iz2 (by omega) (by omega) a7 a8 (hno (by rw [hq, Bool.and_false]))
      · rw [if_neg cb]
        rcases hB with ⟨hb, -⟩ | ⟨s, hs, rfl, vs, hB⟩
        · exact absurd hb cb
        rw [bitsOf_tab l (by omega), bitsOf_tab s (by omega), Option.bind_some, Option.bind_some]
        try dsimp only
        have p1 := pcn_le l (by omega)
        have p2 := pcn_le s (by omega)
        by_cases cl : pcn l < pcn s
        · rw [if_pos (show nI (pcn l) < nI (pcn s) from (nI_ltI (by omega) (by omega)).mpr cl)]
          obtain ⟨IzA, IzB, pc, Iz2, a1, a2, a3, a4, a5, a6, a7, a8⟩ := zset_is (h1 := nI t) (h2 := nI p) (h3 := g3) (h4 := g4) (h5 := nI o) (h6 := nI s) h hN hx hNg hK hp (show l < 64 by omega)
          rw [a1, Option.bind_some]
          try dsimp only
          rw [chk_nI ht (by decide), nI_cl (by omega), a2, a3, Option.bind_some]
          try dsimp only
          rw [a4, Option.bind_some]
          try dsimp only
          rw [a6, Option.bind_some]
          try dsimp only
          cases hq : chairQ LT LP (Iz (z + 1)) n u m tl p l with
          | true =>
            rw [if_pos (a5.mpr hq)]
            refine ih (l + 1) g (nI l) Iz2 (by omega) (by omega) a7 a8 (Or.inr ⟨l, by omega, rfl, by show (subs l o && chairQ LT LP (Iz (z + 1)) n u m tl p l) = true; rw [hsb, hq]; rfl, fun r r1 r2 => ?_⟩)
            by_cases e : r = l
            · subst e; exact Or.inr ⟨rfl, Nat.le_refl _⟩
            · have := hB r (by omega) r2
              omega
          | false =>
            rw [if_neg (fun cc => by have := a5.mp cc; rw [hq] at this; exact absurd this (by decide))]
            exact ih (l + 1) g (nI s) Iz2 (by omega) (by omega) a7 a8 (hno (by rw [hq, Bool.and_false]))
        · rw [if_neg (show ¬ nI (pcn l) < nI (pcn s) from fun cc => cl ((nI_ltI (by omega) (by omega)).mp cc))]
          refine ih (l + 1) g (nI s) Iz1 (by omega) (by omega) hK hNg (Or.inr ⟨s, by omega, rfl, vs, fun r r1 r2 => ?_⟩)
          by_cases e : r = l
          · subst e
            omega
          · exact hB r (by omega) r2
theorem chairs_call (h : InvS T I J P x nn c Iz Jz z N n u tn LT LP d na v) (hN : N < 600) (a b w : Int32) : ∃ r I2 Iz2, x_chairs 2000 T I J P x c a b w = some (r, I2) ∧ r_chairs 2000 Iz Jz z a b w = some (r, Iz2) ∧ Unq I I2 x c Iz Iz2 z := by
  have hcx := (h.1 c (Or.inl rfl)).1.1
  have hn := h.n6
  have z1 : uI Iz z 0 0 (z + 1) = Iz (z + 1) := thr_row (by decide)
  have hu := h.wf.u64
  have uz : Iz (z + 1) 32 = nI u := h.wf.2.2.1
  have ux : I (x + 12) 1 = nI u := h.rs.2.1.trans h.wf.2.2.1
  unfold x_chairs r_chairs r_isWhat
  try dsimp only
  rcases arg_cases w 2 (by decide) with hw | ⟨k, hk, rfl⟩
  · rw [show r_within (Int32.toInt64 w) 0 1 = 0 from within_bad (n := 2) (by decide) hw, isb_0, Option.bind_some]
    try dsimp only
    rw [if_pos rfl]
    rcases hw with hw | hw
    · rw [if_pos hw]
      exact ⟨_, _, _, rfl, rfl, unq_0⟩
    · have h1 : ¬ w < 0 := fun cc => by
        have e1 := Int32.lt_iff_toInt_lt.mp cc
        have e2 := Int32.le_iff_toInt_le.mp hw
        have e3 : (nI 2).toInt = 2 := by decide
        have e4 : (0 : Int32).toInt = 0 := by decide
        omega
      have h2 : ¬ w ≤ 1 := fun cc => by
        have e1 := Int32.le_iff_toInt_le.mp cc
        have e2 := Int32.le_iff_toInt_le.mp hw
        have e3 : (nI 2).toInt = 2 := by decide
        have e4 : (1 : Int32).toInt = 1 := by decide
        omega
      rw [if_neg h1, if_neg h2]
      exact ⟨_, _, _, rfl, rfl, unq_0⟩
  · rw [show r_within (Int32.toInt64 (nI k)) 0 1 = 1 from within_ok (n := 2) (by decide) hk, isb_1, Option.bind_some]
    try dsimp only
    rw [if_neg (show ¬ (1 : Int32) = 0 by decide), if_neg (show ¬ nI k < 0 from nI_nlt (b := 0) (by omega) (by omega)), if_pos (show nI k ≤ 1 from nI_le (b := 1) (by omega) (by omega))]
    obtain ⟨w, I1, e1, e2, r1, r2, r3⟩ := readUp_is h a b
    rw [e1, e2, Option.bind_some, Option.bind_some]
    try dsimp only
    by_cases hw : w = 0
    · obtain ⟨t, p, m, tl, rfl, rfl, hp, hup, hNg⟩ := r3 hw
      subst hw
      rw [if_pos rfl, if_pos rfl]
      obtain ⟨Iz1, k1, K1⟩ := kz_start (Iz := Iz) (z := z)
      have hx : Tx I I1 x c := ⟨rdn_x (c := c) r1, r2⟩
      have hN1 : Ngt I1 x Iz1 Jz z t m tn tl := hNg.fx rfl rfl (by rw [K1.n19, thr_row (by decide)])
      have ho : clr u p < 64 := clr_lt u hu p (by omega)
      rw [k1, Option.bind_some]
      try dsimp only
      rw [show Int32.toNatClampNeg 32 = 32 from rfl, K1.2.1, uz, clr_tab u hu p (by omega)]
      obtain ⟨b', Iz2, g1, g2, g3⟩ := rc_go h hN hx hp ho (g3 := nI k) (g4 := 0) (clr u p + 1) 0 2000 (-1) Iz1 (by omega) (by omega) K1 hN1 (Or.inl ⟨rfl, fun r hr => absurd hr (by omega)⟩)
      have g1 : r_chairs_56 2000 Jz z (nI t) (nI p) (nI k) 0 (nI (clr u p)) 2000 (-1) 0 Iz1 = _ := g1
      rw [g1, Option.bind_some]
      try dsimp only
      have B2 : Bst (fun s => subs s (clr u p) && chairQ LT LP (Iz (z + 1)) n u m tl p s) 64 b' := g3.more (by omega) (fun r r1 r2 => by
        show (subs r (clr u p) && chairQ LT LP (Iz (z + 1)) n u m tl p r) = false
        cases hsb : subs r (clr u p) with
        | false => rfl
        | true => have := subs_le r r2 _ ho hsb; omega)
      unfold x_fewestChairs
      try dsimp only
      rw [hx.sta hcx (by omega), ux, clr_tab u hu p (by omega)]
      have hub : ub (clr u p) p = false := by rw [clr_ub u hu p (by omega) p (by omega)]; simp
      rcases fc_out h hN K1.2.1 hp ho 6 0 2000 I1 (by omega) (by omega) hx hN1 (fun r _ hr => absurd hr (by omega)) with ⟨I2, a1, a2, a3⟩ | ⟨r, I2, a1, a2, a3, a4⟩
      · have a1 : x_fewestChairs_16 2000 T P x c (nI p) (nI (clr u p)) 2000 0 I1 = _ := a1
        rw [a1, Option.bind_some]
        try dsimp only
        rw [Option.bind_some]
        try dsimp only
        have B1 : Bst (fun s => subs s (clr u p) && chairQ LT LP (Iz (z + 1)) n u m tl p s) 64 (-1) := Or.inl ⟨rfl, fun r hr => by
          show (subs r (clr u p) && chairQ LT LP (Iz (z + 1)) n u m tl p r) = false
          cases hsb : subs r (clr u p) with
          | false => rfl
          | true =>
            have := a3 r hr (by have := pcn5 r hr p (by omega) (subs_ub r hr _ ho hsb p (by omega) hub); omega)
            rw [hsb] at this
            exact this⟩
        obtain rfl := B2.uniq (Nat.le_refl _) B1
        rw [if_pos rfl, if_pos rfl]
        exact ⟨_, _, _, rfl, rfl, (unq_x hcx a2.1 a2.2).1, g2.keep, (unq_x hcx a2.1 a2.2).2⟩
      · have a1 : x_fewestChairs_16 2000 T P x c (nI p) (nI (clr u p)) 2000 0 I1 = _ := a1
        rw [a1, Option.bind_some]
        try dsimp only
        rw [Option.bind_some]
        try dsimp only
        obtain rfl := B2.uniq (Nat.le_refl _) a3
        have hu2 : Unq I I2 x c Iz Iz2 z := ⟨(unq_x hcx a2.1 a2.2).1, g2.keep, (unq_x hcx a2.1 a2.2).2⟩
        rw [if_neg (ne_m1 r a4), if_neg (ne_m1 r a4), bitCount_tab r a4, bitsOf_tab r a4, Option.bind_some]
        try dsimp only
        by_cases k0 : k = 0
        · subst k0
          rw [if_pos (show nI 0 = 0 from rfl), if_neg (show ¬ nI 0 = 1 by decide)]
          exact ⟨_, _, _, rfl, rfl, hu2⟩
        · obtain rfl : k = 1 := by omega
          rw [if_neg (show ¬ nI 1 = 0 by decide), if_pos (show nI 1 = 1 from rfl)]
          exact ⟨_, _, _, rfl, rfl, hu2⟩
    · rw [if_neg hw, if_neg hw]
      exact ⟨_, _, _, rfl, rfl, unq_r r1 r2⟩
end
