/-! lines of a court: persons, tunes, offices -/
theorem RCt.put {I : Nat → Nat → Int32} {c : Nat} {A : Row} {r i k : Nat} {v : Int32} (h : RCt I c A) (hm : (r = 0 ∧ ((i = 0 ∧ k = 1) ∨ (i = 1 ∧ k = 2) ∨ (i = 2 ∧ k = 3) ∨ (i = 3 ∧ k = 0))) ∨ (r = 1 ∧ i < 6 ∧ k = 10 + i) ∨ (r = 2 ∧ i < 6 ∧ k = 16 + i) ∨ (r = 3 ∧ i < 4 ∧ k = 22 + i) ∨ (r = 4 ∧ i < 6 ∧ k = 26 + i)) (ho : r = 3 → ∃ o, o ≤ 9 ∧ v = nI o) (hf : r = 4 → 0 ≤ v.toInt ∧ v.toInt ≤ 99) : RCt (uI I (c + r) i v) c (upd A k v) := by
  obtain ⟨h0, h1, h2, h3, h4, h5, h6⟩ := h
  have key : ∀ q j kk, ((q = c + r ∧ j = i) ↔ kk = k) → I q j = A kk → uI I (c + r) i v q j = upd A k v kk := fun q j kk e e2 => by
    rw [uI_get]
    by_cases cc : kk = k
    · rw [if_pos (e.mpr cc), cc, pk_us]
    · rw [if_neg (fun hh => cc (e.mp hh)), pk_un cc]
      exact e2
  refine ⟨key _ _ _ (by clear ho hf; omega) h0, key _ _ _ (by clear ho hf; omega) h1, key _ _ _ (by clear ho hf; omega) h2, key _ _ _ (by clear ho hf; omega) h3, fun p hp => ⟨key _ _ _ (by clear ho hf; omega) (h4 p hp).1, key _ _ _ (by clear ho hf; omega) (h4 p hp).2⟩, fun t ht => ⟨key _ _ _ (by clear ho hf; omega) (h5 t ht).1, ?_⟩, fun q hq => ⟨key _ _ _ (by clear ho hf; omega) (h6 q hq).1, ?_⟩⟩
  · by_cases cc : 22 + t = k
    · rw [← cc, pk_us]
      have hr : r = 3 := by clear ho hf; omega
      exact ho hr
    · rw [pk_un cc]
      exact (h5 t ht).2
  · by_cases cc : 26 + q = k
    · rw [← cc, pk_us]
      have hr : r = 4 := by clear ho hf; omega
      exact hf hr
    · rw [pk_un cc]
      exact (h6 q hq).2
def Fl (I I1 : Nat → Nat → Int32) (x c : Nat) : Prop := (∀ q, q ≠ x + 2 → q ≠ x + 3 → ¬ (c ≤ q ∧ q ≤ c + 4) → I1 q = I q) ∧ ∀ k, k ≠ 0 → k ≠ 1 → k ≠ 4 → k ≠ 5 → k ≠ 6 → k ≠ 7 → k ≠ 10 → I1 (x + 2) k = I (x + 2) k
def Flr (I I1 : Nat → Nat → Int32) (z : Nat) : Prop := (∀ q, q ≠ z → q ≠ z + 4 → I1 q = I q) ∧ (∀ k, k ≠ 6 → k ≠ 7 → k ≠ 9 → k ≠ 10 → k ≠ 11 → k ≠ 12 → I1 z k = I z k)
theorem Fl.rf {I : Nat → Nat → Int32} {x c : Nat} : Fl I I x c := ⟨fun _ _ _ _ => rfl, fun _ _ _ _ _ _ _ _ => rfl⟩
theorem Fl.tr {I I1 I2 : Nat → Nat → Int32} {x c : Nat} (h : Fl I I1 x c) (h2 : Fl I1 I2 x c) : Fl I I2 x c := ⟨fun q a b d => (h2.1 q a b d).trans (h.1 q a b d), fun k a b c d e f g => (h2.2 k a b c d e f g).trans (h.2 k a b c d e f g)⟩
theorem Flr.rf {I : Nat → Nat → Int32} {z : Nat} : Flr I I z := ⟨fun _ _ _ => rfl, fun _ _ _ _ _ _ _ => rfl⟩
theorem Flr.tr {I I1 I2 : Nat → Nat → Int32} {z : Nat} (h : Flr I I1 z) (h2 : Flr I1 I2 z) : Flr I I2 z := ⟨fun q a b => (h2.1 q a b).trans (h.1 q a b), fun k a b c d e f => (h2.2 k a b c d e f).trans (h.2 k a b c d e f)⟩
theorem Fpc.fl {I I1 : Nat → Nat → Int32} {x c : Nat} (h : Fpc I I1 x) : Fl I I1 x c := ⟨fun q a b _ => h.1 q a b, h.2⟩
theorem Fpr.fl {I I1 : Nat → Nat → Int32} {z : Nat} (h : Fpr I I1 z) : Flr I I1 z := ⟨h.1, h.2.1⟩
theorem Fl.u {I : Nat → Nat → Int32} {x c r i : Nat} {v : Int32} (hr : r ≤ 4) (hc : x + 4 ≤ c) : Fl I (uI I (c + r) i v) x c := ⟨fun q _ _ h3 => uI_row _ _ _ _ _ (by omega), fun k _ _ _ _ _ _ _ => by rw [uI_row _ _ _ _ _ (by omega)]⟩
theorem Flr.u {I : Nat → Nat → Int32} {z i : Nat} {v : Int32} : Flr I (uI I (z + 4) i v) z := ⟨fun q _ h => uI_row _ _ _ _ _ h, fun k _ _ _ _ _ _ => by rw [uI_row _ _ _ _ _ (by omega)]⟩
def Dr (I : Nat → Nat → Int32) (c : Nat) (A : Row) : Prop := RCt I c A ∧ ∃ np nt no ln, (np ≤ 6 ∧ nt ≤ 4 ∧ no ≤ 6 ∧ ln ≤ 900) ∧ I c 0 = nI np ∧ I c 1 = nI nt ∧ I c 2 = nI no ∧ I c 3 = nI ln
/-- rows of the draft may be written; tokens stay -/
theorem Ps.put {x z sz : Nat} {b : Nat → Nat} {I Iz : Nat → Nat → Int32} {t a e m n c r i k : Nat} {v w : Int32} (h : Ps x z sz b I Iz t a e m n) (hc : x + 4 ≤ c) (hk : k < 396) : Ps x z sz b (uI I (c + r) i v) (uI Iz (z + 4) k w) t a e m n := h.mv (fun _ _ => by rw [uI_row _ _ _ _ _ (by omega)]) (uI_row _ _ _ _ _ (by omega)) (fun _ => by rw [uI_row _ _ _ _ _ (by omega)]) (uI_row _ _ _ _ _ (by omega)) (by rw [uI_row _ _ _ _ _ (by omega)]; exact h.2.1) (by rw [uI_k _ _ _ _ _ (by omega)]; exact h.2.2)
theorem Ps.putc {x z sz : Nat} {b : Nat → Nat} {I Iz : Nat → Nat → Int32} {t a e m n c r i : Nat} {v : Int32} (h : Ps x z sz b I Iz t a e m n) (hc : x + 4 ≤ c) : Ps x z sz b (uI I (c + r) i v) Iz t a e m n := h.mv (fun _ _ => by rw [uI_row _ _ _ _ _ (by omega)]) (uI_row _ _ _ _ _ (by omega)) (fun _ => rfl) rfl (by rw [uI_row _ _ _ _ _ (by omega)]; exact h.2.1) h.2.2
theorem Ps.putz {x z sz : Nat} {b : Nat → Nat} {I Iz : Nat → Nat → Int32} {t a e m n k : Nat} {w : Int32} (h : Ps x z sz b I Iz t a e m n) (hk : k < 396) : Ps x z sz b I (uI Iz (z + 4) k w) t a e m n := h.mv (fun _ _ => rfl) rfl (fun _ => by rw [uI_row _ _ _ _ _ (by omega)]) (uI_row _ _ _ _ _ (by omega)) h.2.1 (by rw [uI_k _ _ _ _ _ (by omega)]; exact h.2.2)
/-- a fault is found, on both sides the same -/
def Be (x z : Nat) (I Iz : Nat → Nat → Int32) : Prop := ∃ f p, (1 ≤ f ∧ f ≤ 4 ∧ p ≤ 900) ∧ Iz z 11 = nI f ∧ Iz z 12 = nI p ∧ I (x + 2) 0 = nI f ∧ I (x + 2) 1 = nI p
theorem Bd.be {x z : Nat} {I Iz : Nat → Nat → Int32} (h : Bd x z I Iz) : Be x z I Iz := by
  obtain ⟨f, p, m, h1, h2, h3, h4, h5, _⟩ := h
  exact ⟨f, p, by omega, h2, h3, h4, h5⟩
section
variable {x z sz : Nat} {b : Nat → Nat} {I Iz : Nat → Nat → Int32} {t a e m n : Nat}
theorem Be.ne (h : Be x z I Iz) : ¬ Iz z 11 = 0 := fun cc => by
  obtain ⟨f, p, h1, h2, _⟩ := h
  rw [h2] at cc
  have := (nI_eq (b := 0) (by omega) (by decide)).mp cc
  omega
theorem Be.is {c : Int32} (h : Be x z I Iz) : r_is Iz z c = 0 := by unfold r_is; rw [if_neg h.ne]
theorem Be.eats {c : Int32} (h : Be x z I Iz) : r_eats 2000 Iz z c = some (0, Iz) := by unfold r_eats; rw [h.is, if_pos rfl]
theorem Be.fails {c : Int32} (h : Be x z I Iz) : r_fails Iz z c = some Iz := by unfold r_fails; rw [if_neg h.ne]
theorem bad_ge {v : Nat} (h : Ps x z sz b I Iz t a e m n) (hv : 2 ≤ v ∧ v ≤ 4) : ∃ I1 Iz1, rd_refuse I x (nI v) = some (0, I1) ∧ r_fails Iz z (nI v) = some Iz1 ∧ Be x z I1 Iz1 ∧ Fpc I I1 x ∧ Fpr Iz Iz1 z ∧ I1 (x + 3) = I (x + 3) ∧ Iz1 (z + 4) = Iz (z + 4) := by
  obtain ⟨⟨⟨t1, t2, t3, t4, t5⟩, ⟨c1, c2, c3⟩, ⟨r1, r2, r3⟩, hn, ho, hf, hg⟩, hm, hk⟩ := h
  have hs := t1.1
  unfold rd_refuse r_fails
  rw [if_pos ho, r3]
  have fr : ∀ w : Int32, Fpr Iz (uI (uI Iz z 11 w) z 12 (nI a)) z := fun w => ⟨fun q h1 h2 => by rw [uI_row _ _ _ _ _ h1, uI_row _ _ _ _ _ h1], fun k _ _ _ _ h5 h6 => by rw [uI_k _ _ _ _ _ h6, uI_k _ _ _ _ _ h5], fun k hk => by rw [uI_row _ _ _ _ _ (by omega), uI_row _ _ _ _ _ (by omega)]⟩
  by_cases c : t = 3
  · rw [if_pos c] at hf hg
    rw [hf, if_neg (by decide), if_pos ((kr_3 t t2).mpr c)]
    try dsimp only
    rw [uI_k _ _ _ _ _ (show 6 ≠ 11 by decide), r1]
    exact ⟨_, _, rfl, rfl, ⟨1, a, by omega, by rw [uI_k _ _ _ _ _ (by decide), uI_e]; rfl, uI_e _ _ _ _, hf, hg⟩, Fpc.rf, fr 1, rfl, by rw [uI_row _ _ _ _ _ (by omega), uI_row _ _ _ _ _ (by omega)]⟩
  · rw [if_neg c] at hf
    rw [hf, if_pos rfl, if_neg (fun cc => c ((kr_3 t t2).mp cc))]
    try dsimp only
    rw [uI_k _ _ _ _ _ (show 6 ≠ 11 by decide), r1, uI_k _ _ _ _ _ (show 4 ≠ 0 by decide), c1]
    refine ⟨_, _, rfl, rfl, ⟨v, a, by omega, by rw [uI_k _ _ _ _ _ (by decide), uI_e], uI_e _ _ _ _, by rw [uI_k _ _ _ _ _ (by decide), uI_e], uI_e _ _ _ _⟩, ⟨fun q h1 h2 => by rw [uI_row _ _ _ _ _ h1, uI_row _ _ _ _ _ h1], fun k h0 h1 _ _ _ _ _ => by rw [uI_k _ _ _ _ _ h1, uI_k _ _ _ _ _ h0]⟩, fr _, by rw [uI_row _ _ _ _ _ (by omega), uI_row _ _ _ _ _ (by omega)], by rw [uI_row _ _ _ _ _ (by omega), uI_row _ _ _ _ _ (by omega)]⟩
theorem expect_ge {u : Nat} (h : Ps x z sz b I Iz t a e m n) (hu : u < 36) (hu3 : u ≠ 3) : (t = u ∧ ∃ t1 a1 e1 I1 Iz1, rd_expect 2000 I x (kcT.getD u 0) = some (1, I1) ∧ r_eats 2000 Iz z (krT.getD u 0) = some (1, Iz1) ∧ Ps x z sz b I1 Iz1 t1 a1 e1 m n ∧ e ≤ a1 ∧ I1 (x + 3) = I (x + 3) ∧ Iz1 (z + 4) = Iz (z + 4) ∧ Fpc I I1 x ∧ Fpr Iz Iz1 z) ∨ (t ≠ u ∧ ∃ I1 Iz1, rd_expect 2000 I x (kcT.getD u 0) = some (0, I1) ∧ r_eats 2000 Iz z (krT.getD u 0) = some (0, Iz) ∧ r_fails Iz z 2 = some Iz1 ∧ Be x z I1 Iz1 ∧ Fpc I I1 x ∧ Fpr Iz Iz1 z ∧ Iz1 (z + 4) = Iz (z + 4)) := by
  unfold rd_expect r_eats
  rw [is_t h hu, h.kc]
  by_cases c : t = u
  · left
    refine ⟨c, ?_⟩
    obtain ⟨t1, a1, e1, I1, Iz1, g1, g2, g3⟩ := tk_go h (by omega)
    rw [if_pos ((kc_inj t h.tk.1 u hu).mpr c), if_pos c, if_neg (by decide), g1, g2]
    exact ⟨t1, a1, e1, I1, Iz1, rfl, rfl, g3⟩
  · right
    refine ⟨c, ?_⟩
    obtain ⟨I1, Iz1, g1, g2, g3, g4, g5, g6, g7⟩ := bad_ge (v := 2) h (by omega)
    have g1 : rd_refuse I x 2 = _ := g1
    rw [if_neg (fun cc => c ((kc_inj t h.tk.1 u hu).mp cc)), if_neg c, if_pos rfl, g1]
    exact ⟨I1, Iz1, rfl, rfl, g2, g3, g4, g5, g7⟩
end
theorem Be.putz {x z : Nat} {I Iz : Nat → Nat → Int32} {k : Nat} {w : Int32} (h : Be x z I Iz) : Be x z I (uI Iz (z + 4) k w) := by
  obtain ⟨f, p, h1, h2, h3, h4⟩ := h
  exact ⟨f, p, h1, by rw [uI_row _ _ _ _ _ (by omega)]; exact h2, by rw [uI_row _ _ _ _ _ (by omega)]; exact h3, h4⟩
section
variable {x z sz : Nat} {b : Nat → Nat} {I Iz : Nat → Nat → Int32} {t a e m n : Nat}
/-- a number within bounds -/
theorem num_go {v : Nat} (h : Ps x z sz b I Iz t a e m n) (hv : v < 1000) : (t = 1 ∧ ∃ w, w ≤ v ∧ I (x + 2) 7 = nI w ∧ rd_isNUpTo I x (nI v) = some (1, I) ∧ ∀ Iz1, r_nextToken 2000 Iz z = some Iz1 → r_takes 2000 Iz z 0 (nI v) = some (nI w, Iz1)) ∨ (∃ I1 Iz1 u, rd_isNUpTo I x (nI v) = some (0, I1) ∧ r_takes 2000 Iz z 0 (nI v) = some (u, Iz1) ∧ Be x z I1 Iz1 ∧ Fpc I I1 x ∧ Fpr Iz Iz1 z) := by
  unfold rd_isNUpTo r_takes
  by_cases c1 : t = 1
  · obtain ⟨w, w1, w2, w3⟩ := h.1.2.2.2.1 c1
    rw [if_pos (show I (x + 2) 6 = 1 from h.isc c1), show r_is Iz z 23 = 1 from h.isr (u := 1) (by decide) c1, if_neg (show ¬ (1 : Int32) = 0 by decide), w2, w3, within_i]
    by_cases c2 : w ≤ v
    · left
      refine ⟨c1, w, c2, rfl, ?_, fun Iz1 e => ?_⟩
      · rw [if_pos (nI_le c2 (by omega))]
      · rw [decide_eq_true (show (0 : Int32) ≤ nI w from nI_le (a := 0) (by omega) (by omega)), decide_eq_true (nI_le c2 (by omega)), if_neg (by decide)]
        try dsimp only
        rw [if_pos h.ok, e]
        rfl
    · right
      obtain ⟨I1, Iz1, g1, g2, g3, g4, g5, g6, g7⟩ := bad_ge (v := 3) h (by omega)
      have g1 : rd_refuse I x 3 = _ := g1
      have g2 : r_fails Iz z 3 = _ := g2
      rw [if_neg (show ¬ nI w ≤ nI v from nI_ge (by omega) (by omega)), g1, decide_eq_false (show ¬ nI w ≤ nI v from nI_ge (by omega) (by omega)), Bool.and_false, if_pos (show b2 false = 0 from rfl), g2, Option.bind_some, Option.bind_some]
      try dsimp only
      rw [if_pos rfl, if_neg g3.ne]
      exact ⟨_, _, _, rfl, rfl, g3, g4, g5⟩
  · right
    obtain ⟨I1, Iz1, g1, g2, g3, g4, g5, g6, g7⟩ := bad_ge (v := 2) h (by omega)
    have g1 : rd_refuse I x 2 = _ := g1
    have g2 : r_fails Iz z 2 = _ := g2
    rw [if_neg (show ¬ I (x + 2) 6 = 1 from h.nsc (u := 1) (by decide) c1), show r_is Iz z 23 = 0 from h.nsr (u := 1) (by decide) c1, if_pos rfl, g1, g2, Option.bind_some, Option.bind_some]
    try dsimp only
    rw [isb_out (Or.inl rfl), if_neg g3.ne]
    exact ⟨_, _, _, rfl, rfl, g3, g4, g5⟩
/-- what a line leaves: a fault, or the draft told further -/
def LO (x z sz : Nat) (b : Nat → Nat) (c : Nat) (I Iz : Nat → Nat → Int32) (aa m n : Nat) (r : Int32) (I1 Iz1 : Nat → Nat → Int32) : Prop := Fl I I1 x c ∧ Flr Iz Iz1 z ∧ ((r = 0 ∧ Be x z I1 Iz1) ∨ (r = 1 ∧ ∃ t1 a1 e1, Ps x z sz b I1 Iz1 t1 a1 e1 m n ∧ aa ≤ a1 ∧ Dr I1 c (Iz1 (z + 4)) ∧ ∀ k, k = 0 ∨ (4 ≤ k ∧ k < 10) ∨ 32 ≤ k → Iz1 (z + 4) k = Iz (z + 4) k))
theorem LO.then {c aa aa' m n : Nat} {r : Int32} {I3 Iz3 I1 Iz1 : Nat → Nat → Int32} (h : LO x z sz b c I3 Iz3 aa' m n r I1 Iz1) (h1 : Fl I I3 x c) (h2 : Flr Iz Iz3 z) (h3 : ∀ k, k = 0 ∨ (4 ≤ k ∧ k < 10) ∨ 32 ≤ k → Iz3 (z + 4) k = Iz (z + 4) k) (ha : aa ≤ aa') : LO x z sz b c I Iz aa m n r I1 Iz1 := by
  obtain ⟨g1, g2, g3⟩ := h
  refine ⟨h1.tr g1, h2.tr g2, ?_⟩
  rcases g3 with g3 | ⟨g3, t1, a1, e1, k1, k2, k3, k4⟩
  · exact Or.inl g3
  · exact Or.inr ⟨g3, t1, a1, e1, k1, by omega, k3, fun k hk => (k4 k hk).trans (h3 k hk)⟩
theorem r0_is {α : Type} {r : Int32} (h : r = 0) (u v : Option α) : (if r = 0 then u else v) = u := by rw [if_pos h]
end
