/-! words, signs, whole tokens -/
def ws0 : List (List Nat) := [[119, 104, 111], [109, 97, 114, 107], [115, 116, 114, 101, 110, 103, 116, 104], [116, 117, 110, 101], [98, 101, 115, 105, 100, 101], [117, 112], [109, 105, 110, 117, 116, 101], [99, 111, 117, 114, 116], [112, 101, 114, 115, 111, 110], [111, 100, 100, 115], [111, 102, 102, 105, 99, 101], [116, 105, 114, 101, 115], [112, 97, 105, 110, 115], [105, 102], [116, 104, 101, 110], [101, 108, 115, 101], [101, 110, 100], [110, 111, 116], [97, 110, 100], [111, 114]]
def ws2 : List (List Nat) := [[99, 111, 117, 114, 116], [112, 101, 114, 115, 111, 110], [115, 116, 114, 101, 110, 103, 116, 104], [109, 97, 114, 107], [116, 117, 110, 101], [111, 100, 100, 115], [111, 102, 102, 105, 99, 101], [116, 105, 114, 101, 115], [112, 97, 105, 110, 115], [105, 102], [116, 104, 101, 110], [101, 108, 115, 101], [101, 110, 100], [119, 104, 111], [98, 101, 115, 105, 100, 101], [117, 112], [109, 105, 110, 117, 116, 101], [97, 110, 100], [111, 114], [110, 111, 116]]
def LayW (W : List Int32) : Nat → List (List Nat) → Bool
  | p, [] => decide (p = W.length)
  | p, w :: t => (List.range w.length).all (fun i => decide (W.getD (p + i) 0 = nI (w.getD i 0)) && decide (97 ≤ w.getD i 0 ∧ w.getD i 0 ≤ 122)) && decide (W.getD (p + w.length) 0 = 32) && LayW W (p + w.length + 1) t
theorem lay0 : LayW (sbs 0) 0 ws0 = true := by decide +kernel
theorem lay2 : LayW (sbs 2) 1 ws2 = true := by decide +kernel
theorem len0 : (sbs 0).length = 105 ∧ js_length (sbs 0) = nI 105 := by decide +kernel
theorem len2 : (sbs 2).length = 106 ∧ js_length (sbs 2) = nI 106 := by decide +kernel
theorem ch0 : ∀ k, k < 105 → js_charAt (sbs 0) (nI k) = some ((sbs 0).getD k 0) := by decide +kernel
theorem ch2 : ∀ k, k < 106 → js_charAt (sbs 2) (nI k) = some ((sbs 2).getD k 0) := by decide +kernel
def tkn (b : Nat → Nat) (a L : Nat) : List Nat := (List.range L).map (fun i => b (a + i))
def fidx (t : List Nat) : List (List Nat) → Option Nat
  | [] => none
  | w :: ws => if w = t then some 0 else (fidx t ws).map (· + 1)
def wperm : List Nat := [13, 3, 2, 4, 14, 15, 16, 0, 1, 5, 6, 7, 8, 9, 10, 11, 12, 19, 17, 18]
theorem fidx_at {t : List Nat} : ∀ {ws : List (List Nat)} {k : Nat}, fidx t ws = some k → ws[k]? = some t
  | [], k, h => by cases h
  | w :: ws, k, h => by
    unfold fidx at h
    by_cases c : w = t
    · rw [if_pos c] at h
      injection h with h
      subst h
      rw [c]
      rfl
    · rw [if_neg c] at h
      cases hf : fidx t ws with
      | none => rw [hf] at h; cases h
      | some j =>
        rw [hf] at h
        injection h with h
        subst h
        have := fidx_at hf
        show (w :: ws)[j + 1]? = some t
        rw [List.getElem?_cons_succ]
        exact this
theorem perm_t : ∀ k, k < 20 → fidx (ws0.getD k []) ws2 = some (wperm.getD k 0) := by decide +kernel
theorem perm_n : ∀ k, k < 20 → (fidx (ws2.getD k []) ws0).isSome = true := by decide +kernel
theorem fidx_2 {t : List Nat} : (∃ k, k < 20 ∧ fidx t ws0 = some k ∧ fidx t ws2 = some (wperm.getD k 0)) ∨ (fidx t ws0 = none ∧ fidx t ws2 = none) := by
  cases h0 : fidx t ws0 with
  | some k =>
    left
    have h1 := fidx_at h0
    have hk : k < 20 := (List.getElem?_eq_some_iff.mp h1).1
    have h2 : ws0.getD k [] = t := by rw [List.getD_eq_getElem?_getD, h1]; rfl
    refine ⟨k, hk, rfl, ?_⟩
    rw [← h2]
    exact perm_t k hk
  | none =>
    right
    refine ⟨rfl, ?_⟩
    cases h2 : fidx t ws2 with
    | none => rfl
    | some k =>
      exfalso
      have h1 := fidx_at h2
      have hk : k < 20 := (List.getElem?_eq_some_iff.mp h1).1
      have h3 : ws2.getD k [] = t := by rw [List.getD_eq_getElem?_getD, h1]; rfl
      have := perm_n k hk
      rw [h3, h0] at this
      cases this
/-- the first i letters of a word are those of the token -/
def pmw (b : Nat → Nat) (a L : Nat) (w : List Nat) (i : Nat) : Bool := decide (i ≤ L) && (List.range i).all (fun t => decide (b (a + t) = w.getD t 0))
theorem pmw_iff {b : Nat → Nat} {a L : Nat} {w : List Nat} {i : Nat} : pmw b a L w i = true ↔ i ≤ L ∧ ∀ t, t < i → b (a + t) = w.getD t 0 := by
  unfold pmw
  rw [Bool.and_eq_true, List.all_eq_true, decide_eq_true_iff]
  constructor
  · rintro ⟨h1, h2⟩
    exact ⟨h1, fun t ht => of_decide_eq_true (h2 t (List.mem_range.mpr ht))⟩
  · rintro ⟨h1, h2⟩
    exact ⟨h1, fun t ht => decide_eq_true (h2 t (List.mem_range.mp ht))⟩
theorem pmw_tk {b : Nat → Nat} {a L : Nat} {w : List Nat} : (pmw b a L w w.length = true ∧ w.length = L) ↔ w = tkn b a L := by
  rw [pmw_iff]
  constructor
  · rintro ⟨⟨h1, h2⟩, h3⟩
    refine List.ext_getElem? (fun i => ?_)
    unfold tkn
    rw [List.getElem?_map]
    by_cases h4 : i < w.length
    · rw [List.getElem?_range (by omega), Option.map_some, h2 i h4, List.getD_eq_getElem?_getD, List.getElem?_eq_getElem h4]
      rfl
    · rw [List.getElem?_eq_none (by omega), List.getElem?_eq_none (by rw [List.length_range]; omega)]
      rfl
  · intro h
    have hl : w.length = L := by rw [h]; unfold tkn; rw [List.length_map, List.length_range]
    refine ⟨⟨by omega, fun t ht => ?_⟩, hl⟩
    have e : w.getD t 0 = (tkn b a L).getD t 0 := by rw [← h]
    rw [e]
    unfold tkn
    rw [List.getD_eq_getElem?_getD, List.getElem?_map, List.getElem?_range (by omega)]
    rfl
theorem layW_one {W : List Int32} {p : Nat} {w : List Nat} {t : List (List Nat)} (h : LayW W p (w :: t) = true) : (∀ i, i < w.length → W.getD (p + i) 0 = nI (w.getD i 0) ∧ 97 ≤ w.getD i 0 ∧ w.getD i 0 ≤ 122) ∧ W.getD (p + w.length) 0 = 32 ∧ LayW W (p + w.length + 1) t = true := by
  unfold LayW at h
  rw [Bool.and_eq_true, Bool.and_eq_true, List.all_eq_true] at h
  obtain ⟨⟨h1, h2⟩, h3⟩ := h
  refine ⟨fun i hi => ?_, of_decide_eq_true h2, h3⟩
  have := h1 i (List.mem_range.mpr hi)
  rw [Bool.and_eq_true] at this
  exact ⟨of_decide_eq_true this.1, of_decide_eq_true this.2⟩
theorem layW_le {W : List Int32} : ∀ {ws : List (List Nat)} {p : Nat}, LayW W p ws = true → p ≤ W.length
  | [], p, h => Nat.le_of_eq (of_decide_eq_true h)
  | w :: t, p, h => by
    have := layW_le (layW_one h).2.2
    omega
section
variable {I Iz : Nat → Nat → Int32} {x z sz : Nat} {b : Nat → Nat}
theorem ne32 {c : Nat} (h : 97 ≤ c ∧ c ≤ 122) : ¬ nI c = 32 := fun cc => by
  have := (nI_eq (b := 32) (by omega) (by decide)).mp cc
  omega
/-- one word of the class's list -/
theorem cword_go {a L q p : Nat} {w : List Nat} (hT : Txt I x Iz z sz b) (h4 : I (x + 2) 4 = nI a) (hL : a + L ≤ sz) (hlt : ∀ i, a ≤ i → i < a + L → isLt (b i) = true) (hw : ∀ i, i < w.length → (sbs 0).getD (p + i) 0 = nI (w.getD i 0) ∧ 97 ≤ w.getD i 0 ∧ w.getD i 0 ≤ 122) (hp : p + w.length < 105) : ∀ (j i f : Nat), i + j = w.length → rd_kindOfWord_7 2000 I x (nI L) (f + j) (nI q) (if pmw b a L w i = true then nI i else -1) (nI (p + i)) = rd_kindOfWord_7 2000 I x (nI L) f (nI q) (if pmw b a L w w.length = true then nI w.length else -1) (nI (p + w.length)) := by
  have hs := hT.1
  intro j
  induction j with
  | zero =>
    intro i f hi
    obtain rfl : i = w.length := by omega
    rfl
  | succ j ih =>
    intro i f hi
    obtain ⟨w1, w2, w3⟩ := hw i (by omega)
    rw [← ih (i + 1) f (by omega), show f + (j + 1) = (f + j) + 1 by omega, rd_kindOfWord_7, len0.2, if_neg (nI_ge (by omega) (by omega)), ch0 (p + i) (by omega), Option.bind_some]
    try dsimp only
    rw [w1, if_neg (ne32 ⟨w2, w3⟩), nI_1, show p + i + 1 = p + (i + 1) by omega]
    cases hp : pmw b a L w i with
    | false =>
      have hf : pmw b a L w (i + 1) = false := by
        cases hh : pmw b a L w (i + 1) with
        | false => rfl
        | true =>
          rw [pmw_iff] at hh
          have : pmw b a L w i = true := pmw_iff.mpr ⟨by omega, fun t ht => hh.2 t (by omega)⟩
          rw [hp] at this
          cases this
      rw [hf, if_neg (show ¬ false = true by decide), if_pos (show (-1 : Int32) < 0 by decide), if_neg (show ¬ false = true by decide)]
    | true =>
      obtain ⟨m1, m2⟩ := pmw_iff.mp hp
      rw [if_pos rfl, if_neg (show ¬ nI i < 0 from nI_nlt (b := 0) (by omega) (by omega))]
      by_cases c1 : L ≤ i
      · have hf : pmw b a L w (i + 1) = false := by
          cases hh : pmw b a L w (i + 1) with
          | false => rfl
          | true => rw [pmw_iff] at hh; omega
        rw [hf, if_neg (show ¬ false = true by decide), if_pos (show nI L ≤ nI i from nI_le c1 (by omega))]
      · obtain ⟨b1, b2', b3⟩ := hT.2.1 (a + i) (by omega)
        have bl := hlt (a + i) (by omega) (by omega)
        have bl2 : 97 ≤ b (a + i) ∧ b (a + i) ≤ 122 := by
          unfold isLt at bl
          rw [Bool.and_eq_true] at bl
          exact ⟨Nat.le_of_ble_eq_true bl.1, Nat.le_of_ble_eq_true bl.2⟩
        rw [if_neg (show ¬ nI L ≤ nI i from nI_ge (by omega) (by omega)), h4, nI_add, chk_nI (show a + i < 900 by omega) (by decide), nI_cl (show a + i < 2147483648 by omega), b3, sg_eq _ (by omega)]
        by_cases c2 : b (a + i) = w.getD i 0
        · have ht : pmw b a L w (i + 1) = true := pmw_iff.mpr ⟨by omega, fun t ht => by
            by_cases e : t = i
            · subst e; exact c2
            · exact m2 t (by omega)⟩
          rw [if_pos (show nI (b (a + i)) = nI (w.getD i 0) by rw [c2]), ht, if_pos rfl, nI_1]
        · have hf : pmw b a L w (i + 1) = false := by
            cases hh : pmw b a L w (i + 1) with
            | false => rfl
            | true => rw [pmw_iff] at hh; exact absurd (hh.2 i (by omega)) c2
          rw [if_neg (fun cc => c2 ((nI_eq (by omega) (by omega)).mp cc)), hf, if_neg (show ¬ false = true by decide)]
theorem cwords_go {a L : Nat} (hT : Txt I x Iz z sz b) (h4 : I (x + 2) 4 = nI a) (hL : a + L ≤ sz) (hlt : ∀ i, a ≤ i → i < a + L → isLt (b i) = true) : ∀ (ws : List (List Nat)) (p q f : Nat), LayW (sbs 0) p ws = true → 107 ≤ f + p → q < 100 → q + ws.length < 100 → ∃ l : Int32 × Int32 × Int32, rd_kindOfWord_7 2000 I x (nI L) f (nI q) 0 (nI p) = some (match fidx (tkn b a L) ws with | some k => .inl (nI (200 + (q + k))) | none => .inr l) := by
  have hs := hT.1
  intro ws
  induction ws with
  | nil =>
    intro p q f hl hf hq hq2
    have hp : p = 105 := by rw [← len0.1]; exact of_decide_eq_true hl
    obtain ⟨f, rfl⟩ : ∃ f', f = f' + 1 := ⟨f - 1, by omega⟩
    rw [rd_kindOfWord_7, len0.2, hp, if_pos (by decide)]
    exact ⟨_, rfl⟩
  | cons w t ih =>
    intro p q f hl hf hq hq2
    rw [List.length_cons] at hq2
    obtain ⟨o1, o2, o3⟩ := layW_one hl
    have hle := layW_le o3
    rw [len0.1] at hle
    have st := cword_go (q := q) (p := p) (w := w) hT h4 hL hlt o1 (by omega) w.length 0 (f - w.length) (by omega)
    rw [show f - w.length + w.length = f by omega, show pmw b a L w 0 = true from pmw_iff.mpr ⟨by omega, fun t ht => by omega⟩, if_pos rfl, Nat.add_zero] at st
    have st : rd_kindOfWord_7 2000 I x (nI L) f (nI q) 0 (nI p) = _ := st
    rw [st]
    obtain ⟨f2, hf2⟩ : ∃ f2, f - w.length = f2 + 1 := ⟨f - w.length - 1, by omega⟩
    rw [hf2, rd_kindOfWord_7, len0.2, if_neg (nI_ge (by omega) (by omega)), ch0 (p + w.length) (by omega), Option.bind_some]
    try dsimp only
    rw [o2, if_pos rfl]
    by_cases cm : w = tkn b a L
    · obtain ⟨m1, m2⟩ := pmw_tk.mpr cm
      rw [m1, if_pos rfl, m2, if_pos rfl]
      have e0 : fidx (tkn b a L) (w :: t) = some 0 := if_pos cm
      rw [e0, show (200 : Int32) + nI q = nI (200 + (q + 0)) from nI_add 200 q]
      exact ⟨(0, 0, 0), rfl⟩
    · have hne : ¬ (if pmw b a L w w.length = true then nI w.length else -1) = nI L := fun cc => by
        by_cases c1 : pmw b a L w w.length = true
        · rw [if_pos c1] at cc
          exact cm (pmw_tk.mp ⟨c1, (nI_eq (by omega) (by omega)).mp cc⟩)
        · rw [if_neg c1] at cc
          have := i32_eq.mp cc
          rw [nI_toInt (by omega)] at this
          have k1 : (-1 : Int32).toInt = -1 := rfl
          omega
      rw [if_neg hne, nI_1, nI_1]
      obtain ⟨l, e⟩ := ih (p + w.length + 1) (q + 1) f2 o3 (by omega) (by omega) (by omega)
      rw [e]
      refine ⟨l, ?_⟩
      have e0 : fidx (tkn b a L) (w :: t) = (fidx (tkn b a L) t).map (· + 1) := if_neg cm
      rw [e0]
      cases fidx (tkn b a L) t with
      | none => rfl
      | some k => rw [show Option.map (· + 1) (some k) = some (k + 1) from rfl]; try dsimp only; rw [show 200 + (q + 1 + k) = 200 + (q + (k + 1)) by omega]
/-- one word of the reference's list -/
theorem rword_go {a L p : Nat} {w : List Nat} {g1 : Int32} (hT : Txt I x Iz z sz b) (h6 : Iz z 6 = nI a) (h7 : Iz z 7 = nI (a + L)) (hL : a + L ≤ sz) (hw : ∀ i, i < w.length → (sbs 2).getD (p + i) 0 = nI (w.getD i 0) ∧ 97 ≤ w.getD i 0 ∧ w.getD i 0 ≤ 122) (h32 : (sbs 2).getD (p + w.length) 0 = 32) (hp : p + w.length < 106) : ∀ (j i f : Nat), i + j = w.length → j < f → pmw b a L w i = true → ∃ r, r ≤ w.length ∧ r_keyAt_15 2000 Iz z g1 (nI p) f (nI i) = some (nI r) ∧ ((r = w.length ∧ pmw b a L w r = true) ∨ (r < w.length ∧ w ≠ tkn b a L)) := by
  have hs := hT.1
  intro j
  induction j with
  | zero =>
    intro i f hi hf hp
    obtain ⟨f, rfl⟩ : ∃ f', f = f' + 1 := ⟨f - 1, by omega⟩
    obtain rfl : i = w.length := by omega
    rw [r_keyAt_15, nI_add, ch2 _ (by omega), Option.bind_some]
    try dsimp only
    rw [h32, if_pos rfl]
    exact ⟨_, Nat.le_refl _, rfl, Or.inl ⟨rfl, hp⟩⟩
  | succ j ih =>
    intro i f hi hf hp
    obtain ⟨f, rfl⟩ : ∃ f', f = f' + 1 := ⟨f - 1, by omega⟩
    obtain ⟨w1, w2, w3⟩ := hw i (by omega)
    obtain ⟨m1, m2⟩ := pmw_iff.mp hp
    rw [r_keyAt_15, nI_add, ch2 _ (by omega), Option.bind_some]
    try dsimp only
    rw [w1, if_neg (ne32 ⟨w2, w3⟩), h6, h7, nI_add]
    have nw : ∀ c : Prop, (pmw b a L w (i + 1) = true → False) → w ≠ tkn b a L := fun _ hc e => by
      obtain ⟨n1, n2⟩ := pmw_tk.mpr e
      obtain ⟨n3, n4⟩ := pmw_iff.mp n1
      exact hc (pmw_iff.mpr ⟨by omega, fun t ht => n4 t (by omega)⟩)
    by_cases c1 : L ≤ i
    · rw [if_pos (show nI (a + L) ≤ nI (a + i) from nI_le (by omega) (by omega))]
      exact ⟨i, by omega, rfl, Or.inr ⟨by omega, nw True (fun hh => by rw [pmw_iff] at hh; omega)⟩⟩
    · obtain ⟨b1, b2', b3⟩ := hT.2.1 (a + i) (by omega)
      rw [if_neg (show ¬ nI (a + L) ≤ nI (a + i) from nI_ge (by omega) (by omega)), chk_nI (show a + i < 900 by omega) (by decide), nI_cl (show a + i < 2147483648 by omega), Option.bind_some, b2']
      try dsimp only
      by_cases c2 : b (a + i) = w.getD i 0
      · rw [if_pos (show nI (b (a + i)) = nI (w.getD i 0) by rw [c2]), nI_1]
        exact ih (i + 1) f (by omega) (by omega) (pmw_iff.mpr ⟨by omega, fun t ht => by
          by_cases e : t = i
          · subst e; exact c2
          · exact m2 t (by omega)⟩)
      · rw [if_neg (fun cc => c2 ((nI_eq (by omega) (by omega)).mp cc))]
        exact ⟨i, by omega, rfl, Or.inr ⟨by omega, nw True (fun hh => by rw [pmw_iff] at hh; exact c2 (hh.2 i (by omega)))⟩⟩
theorem skip_go {p : Nat} {w : List Nat} {g1 g3 : Int32} (hw : ∀ i, i < w.length → (sbs 2).getD (p + i) 0 = nI (w.getD i 0) ∧ 97 ≤ w.getD i 0 ∧ w.getD i 0 ≤ 122) (h32 : (sbs 2).getD (p + w.length) 0 = 32) (hp : p + w.length < 106) : ∀ (j i f : Nat), i + j = w.length → j < f → r_keyAt_97 2000 z g1 g3 f (nI (p + i)) = some (nI (p + w.length)) := by
  intro j
  induction j with
  | zero =>
    intro i f hi hf
    obtain ⟨f, rfl⟩ : ∃ f', f = f' + 1 := ⟨f - 1, by omega⟩
    obtain rfl : i = w.length := by omega
    rw [r_keyAt_97, ch2 _ (by omega), Option.bind_some]
    try dsimp only
    rw [h32, if_pos rfl]
  | succ j ih =>
    intro i f hi hf
    obtain ⟨f, rfl⟩ : ∃ f', f = f' + 1 := ⟨f - 1, by omega⟩
    obtain ⟨w1, w2, w3⟩ := hw i (by omega)
    rw [r_keyAt_97, ch2 _ (by omega), Option.bind_some]
    try dsimp only
    rw [w1, if_neg (ne32 ⟨w2, w3⟩), nI_1]
    exact ih (i + 1) f (by omega) (by omega)
theorem rwords_go {a L : Nat} (hT : Txt I x Iz z sz b) (h6 : Iz z 6 = nI a) (h7 : Iz z 7 = nI (a + L)) (hL : a + L ≤ sz) : ∀ (ws : List (List Nat)) (p q f : Nat), LayW (sbs 2) p ws = true → ws.length < f → q + ws.length < 100 → (∃ k, fidx (tkn b a L) ws = some k ∧ r_keyAt_4 2000 Iz z f (nI q) (nI p) = some (.inl (nI (q + k)))) ∨ (fidx (tkn b a L) ws = none ∧ ∃ y, r_keyAt_4 2000 Iz z f (nI q) (nI p) = some (.inr y)) := by
  have hs := hT.1
  intro ws
  induction ws with
  | nil =>
    intro p q f hl hf hq
    have hp : p = 106 := by rw [← len2.1]; exact of_decide_eq_true hl
    obtain ⟨f, rfl⟩ : ∃ f', f = f' + 1 := ⟨f - 1, by have : ([] : List (List Nat)).length = 0 := rfl; omega⟩
    rw [r_keyAt_4, len2.2, hp, if_pos (by decide)]
    exact Or.inr ⟨rfl, _, rfl⟩
  | cons w t ih =>
    intro p q f hl hf hq
    rw [List.length_cons] at hq hf
    obtain ⟨o1, o2, o3⟩ := layW_one hl
    have hle := layW_le o3
    rw [len2.1] at hle
    obtain ⟨f, rfl⟩ : ∃ f', f = f' + 1 := ⟨f - 1, by omega⟩
    obtain ⟨r, r1, r2, r3⟩ := rword_go (p := p) (w := w) (g1 := nI q) hT h6 h7 hL o1 o2 (by omega) w.length 0 2000 (by omega) (by omega) (pmw_iff.mpr ⟨by omega, fun t ht => by omega⟩)
    have r2 : r_keyAt_15 2000 Iz z (nI q) (nI p) 2000 0 = _ := r2
    have sk := skip_go (z := z) (p := p) (w := w) (g1 := nI q) (g3 := nI r) o1 o2 (by omega) w.length 0 2000 (by omega) (by omega)
    rw [Nat.add_zero] at sk
    rw [r_keyAt_4, len2.2, if_neg (nI_ge (by omega) (by omega)), r2, Option.bind_some]
    try dsimp only
    rw [nI_add, ch2 _ (by omega), Option.bind_some, h6, h7, nI_add]
    try dsimp only
    have nxt_ : ∀ (h : w ≠ tkn b a L), (∃ k, fidx (tkn b a L) (w :: t) = some k ∧ r_keyAt_4 2000 Iz z f (nI q + 1) (nI (p + w.length) + 1) = some (.inl (nI (q + k)))) ∨ (fidx (tkn b a L) (w :: t) = none ∧ ∃ y, r_keyAt_4 2000 Iz z f (nI q + 1) (nI (p + w.length) + 1) = some (.inr y)) := fun h => by
      have e0 : fidx (tkn b a L) (w :: t) = (fidx (tkn b a L) t).map (· + 1) := if_neg h
      rw [nI_1, nI_1, e0]
      rcases ih (p + w.length + 1) (q + 1) f o3 (by omega) (by omega) with ⟨k, k1, k2⟩ | ⟨k1, y, k2⟩
      · rw [k1, k2]
        exact Or.inl ⟨k + 1, rfl, by rw [show q + 1 + k = q + (k + 1) by omega]⟩
      · rw [k1, k2]
        exact Or.inr ⟨rfl, y, rfl⟩
    rcases r3 with ⟨e1, e2⟩ | ⟨e1, e2⟩
    · subst e1
      rw [o2, if_pos rfl]
      by_cases c1 : w.length = L
      · have cm := pmw_tk.mp ⟨e2, c1⟩
        rw [if_pos (show nI (a + w.length) = nI (a + L) by rw [c1])]
        exact Or.inl ⟨0, if_pos cm, rfl⟩
      · rw [if_neg (fun cc => c1 (by have := (nI_eq (by omega) (by omega)).mp cc; omega)), sk, Option.bind_some]
        exact nxt_ (fun e => c1 (pmw_tk.mpr e).2)
    · obtain ⟨w1, w2, w3⟩ := o1 r e1
      rw [w1, if_neg (ne32 ⟨w2, w3⟩), sk, Option.bind_some]
      exact nxt_ e2
end
/-! signs -/
def sgs : List Nat := [59, 58, 43, 45, 42, 40, 41, 91, 93, 61, 60, 62]
theorem len3 : js_length (sbs 3) = nI 12 := by decide +kernel
theorem ch3 : ∀ k, k < 12 → js_charAt (sbs 3) (nI k) = some (nI (sgs.getD k 0)) := by decide +kernel
def skind (b : Nat) : Nat → Int32
  | 0 => 25
  | k + 1 => if b = sgs.getD k 0 then nI (30 + k) else skind b k
def x2f (w : Int32) : Int32 := (Int32.toUInt32 (w &&& 255) % 65536).toInt32
theorem x2_t : ∀ b, b < 256 → x2f (sg b) = nI b := by decide +kernel
/-- the tokens: end, number, strange word, what begins none; signs; words -/
def kcT : List Int32 := [0, 1, 2, -1, 59, 58, 43, 45, 42, 40, 41, 91, 93, 61, 60, 62, 200, 201, 202, 203, 204, 205, 206, 207, 208, 209, 210, 211, 212, 213, 214, 215, 216, 217, 218, 219]
def krT : List Int32 := [24, 23, 22, 25, 30, 31, 32, 33, 34, 35, 36, 37, 38, 39, 40, 41, 13, 3, 2, 4, 14, 15, 16, 0, 1, 5, 6, 7, 8, 9, 10, 11, 12, 19, 17, 18]
theorem sign_t : ∀ b, b < 256 → ∃ t, (t = 3 ∧ js_indexOf 2000 (sbs 1) (nI b) = some (-1) ∧ skind b 12 = 25) ∨ (4 ≤ t ∧ t < 16 ∧ kcT.getD t 0 = nI b ∧ (∃ i, js_indexOf 2000 (sbs 1) (nI b) = some i ∧ ¬ i < 0) ∧ skind b 12 = krT.getD t 0) := by
  have h : ∀ b, b < 256 → (decide (js_indexOf 2000 (sbs 1) (nI b) = some (-1)) && decide (skind b 12 = 25)) = true ∨ ((List.range 12).any (fun i => decide (kcT.getD (4 + i) 0 = nI b) && decide (js_indexOf 2000 (sbs 1) (nI b) = some (nI i)) && decide (skind b 12 = krT.getD (4 + i) 0))) = true := by decide +kernel
  intro b hb
  rcases h b hb with h | h
  · rw [Bool.and_eq_true] at h
    exact ⟨3, Or.inl ⟨rfl, of_decide_eq_true h.1, of_decide_eq_true h.2⟩⟩
  · rw [List.any_eq_true] at h
    obtain ⟨i, hi, h⟩ := h
    rw [Bool.and_eq_true, Bool.and_eq_true] at h
    have hi := List.mem_range.mp hi
    exact ⟨4 + i, Or.inr ⟨by omega, by omega, of_decide_eq_true h.1.1, ⟨nI i, of_decide_eq_true h.1.2, nI_nlt (b := 0) (by omega) (by omega)⟩, of_decide_eq_true h.2⟩⟩
theorem rsign_go {I : Nat → Nat → Int32} {x z sz a : Nat} {b : Nat → Nat} (ha : a < sz) : ∀ (j k f : Nat) (Iz : Nat → Nat → Int32), k + j = 12 → j < f → Txt I x Iz z sz b → Iz z 6 = nI a → Iz z 9 = skind (b a) k → ∃ Iz1, r_nextToken_254 2000 z f (nI k) Iz = some (nI 12, Iz1) ∧ Iz1 z 9 = skind (b a) 12 ∧ (∀ q, q ≠ z → Iz1 q = Iz q) ∧ ∀ k, k ≠ 9 → Iz1 z k = Iz z k := by
  intro j
  induction j with
  | zero =>
    intro k f Iz hk hf hT h6 h9
    obtain ⟨f, rfl⟩ : ∃ f', f = f' + 1 := ⟨f - 1, by omega⟩
    obtain rfl : k = 12 := by omega
    refine ⟨Iz, ?_, h9, fun _ _ => rfl, fun _ _ => rfl⟩
    rw [r_nextToken_254, len3, if_pos (by decide)]
  | succ j ih =>
    intro k f Iz hk hf hT h6 h9
    obtain ⟨f, rfl⟩ : ∃ f', f = f' + 1 := ⟨f - 1, by omega⟩
    have hs := hT.1
    obtain ⟨b1, b2', b3⟩ := hT.2.1 a ha
    have hsg : ∀ k, k < 12 → sgs.getD k 0 < 256 := by decide
    rw [r_nextToken_254, len3, if_neg (nI_ge (by omega) (by omega)), h6, see_in hT ha, Option.bind_some]
    try dsimp only
    rw [ch3 k (by omega), Option.bind_some]
    try dsimp only
    have es : skind (b a) (k + 1) = if b a = sgs.getD k 0 then nI (30 + k) else skind (b a) k := rfl
    by_cases c1 : b a = sgs.getD k 0
    · rw [if_pos (show nI (b a) = nI (sgs.getD k 0) by rw [c1]), show (30 : Int32) + nI k = nI (30 + k) from nI_add 30 k, nI_1]
      have gz : Gz Iz (uI Iz z 9 (nI (30 + k))) z := Gz.u (by omega)
      obtain ⟨I1, e1, e2, e3, e4⟩ := ih (k + 1) f (uI Iz z 9 (nI (30 + k))) (by omega) (by omega) (hT.go Gd.rf gz) (by rw [uI_k _ _ _ _ _ (by decide)]; exact h6) (by rw [uI_e, es, if_pos c1])
      exact ⟨I1, e1, e2, fun q hq => by rw [e3 q hq, uI_row _ _ _ _ _ hq], fun q hq => by rw [e4 q hq, uI_k _ _ _ _ _ hq]⟩
    · rw [if_neg (fun cc => c1 ((nI_eq (by omega) (by have := hsg k (by omega); omega)).mp cc)), nI_1]
      exact ih (k + 1) f Iz (by omega) (by omega) hT h6 (by rw [h9, es, if_neg c1])
