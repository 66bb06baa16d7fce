/-! rows: one order, on both sides -/
/-- how many minutes one stands, as a function of the row -/
def mmin (LT LP : Row → Int32) (n : Nat) (tl : Nat → Nat) (p : Nat) : Nat → Nat → Nat → Row → Nat
  | 0, k, _, _ => k
  | j + 1, k, u, A => if ub (mplay LT LP A n u (tl k)).1 p = true then mmin LT LP n tl p j (k + 1) (mplay LT LP A n u (tl k)).1 (mplay LT LP A n u (tl k)).2 else k
section
variable {T : Nat → Option (Nat × Nat)} {I : Nat → Nat → Int32} {J : Nat → Nat → Int64} {P : Nat → Nat → Option Nat} {x nn a c : Nat} {Iz : Nat → Nat → Int32} {Jz : Nat → Nat → Int64} {z N n u tn : Nat} {LT LP : Row → Int32} {d na v e : Nat}
theorem minx_go {t m p : Nat} {tl : Nat → Nat} (hc : c = x + 4 ∨ x + 224 ≤ c) (ha : a + 6 < x + 108 ∨ x + 109 < a) (hp : p < n) : ∀ (j k f g e u : Nat) (I Iz : Nat → Nat → Int32), k + j = m → j < f → j < g → e + j < 1000000 → Sm T I P a c Iz z n u tn LT LP e false → Ngt I x Iz Jz z t m tn tl →
    ∃ r I1 Iz1, ni_minutesUp_3 2000 T P x c a (nI p) f (nI k) I = some (if r = m then .inr (nI m, I1) else .inl (nI r, I1)) ∧ r_standsIn_5 2000 Jz z (nI t) (nI p) g (nI k) (nI k) Iz = some (nI r, nI m, Iz1) ∧ r ≤ m ∧ Fx I I1 a c ∧ Fr Iz Iz1 z ∧ r = mmin LT LP n tl p j k u (Iz (z + 1)) := by
  intro j
  induction j with
  | zero =>
    intro k f g e u I Iz hk hf hg he hS hN
    obtain ⟨f, rfl⟩ : ∃ f', f = f' + 1 := ⟨f - 1, by omega⟩
    obtain ⟨g, rfl⟩ : ∃ f', g = f' + 1 := ⟨g - 1, by omega⟩
    obtain rfl : k = m := by omega
    obtain ⟨n1, n2, n3, n4, n5⟩ := id hN
    refine ⟨k, I, Iz, ?_, ?_, Nat.le_refl _, Fx.rf, Fr.rf, rfl⟩
    · rw [ni_minutesUp_3, n3, if_pos (nI_le (Nat.le_refl _) (by omega)), if_pos rfl]
    · rw [r_standsIn_5, chk_nI n1 (by decide), nI_cl (by omega), n4, if_pos (nI_le (Nat.le_refl _) (by omega))]
  | succ j ih =>
    intro k f g e u I Iz hk hf hg he hS hN
    obtain ⟨f, rfl⟩ : ∃ f', f = f' + 1 := ⟨f - 1, by omega⟩
    obtain ⟨g, rfl⟩ : ∃ f', g = f' + 1 := ⟨g - 1, by omega⟩
    obtain ⟨n1, n2, n3, n4, n5⟩ := id hN
    obtain ⟨m1, m2, m3⟩ := n5 k (by omega)
    have hn := hS.1.1
    obtain ⟨I1, Iz1, cnt, e1, e2, e3, S1, fx, fr⟩ := cp_pl (w := false) (t := tl k) hS (by omega) (fun cc => by cases cc)
    have e1 : s_playMinute 2000 T I P a c (nI (tl k)) 0 = some I1 := e1
    rw [ni_minutesUp_3, n3, if_neg (nI_ge (by omega) (by omega)), chk_nI (by omega) (by decide), nI_cl (by omega), m1, e1, Option.bind_some]
    rw [r_standsIn_5, chk_nI n1 (by decide), nI_cl (by omega), n4, if_neg (nI_ge (by omega) (by omega)), show (40 : Int32) * nI t = nI (40 * t) from pk_mul 40 t, nI_add, chk_nI (by omega) (by decide), nI_cl (by omega), m2, lN_i, e2, Option.bind_some]
    try dsimp only
    have hN1 := hN.go hc ha fx fr
    have em : mmin LT LP n tl p (j + 1) k u (Iz (z + 1)) = if ub (mplay LT LP (Iz (z + 1)) n u (tl k)).1 p = true then mmin LT LP n tl p j (k + 1) (mplay LT LP (Iz (z + 1)) n u (tl k)).1 (mplay LT LP (Iz (z + 1)) n u (tl k)).2 else k := rfl
    rw [em, ← e3]
    generalize (mplay LT LP (Iz (z + 1)) n u (tl k)).1 = u1 at *
    rw [r_isUp_is S1.1.2.2.1 S1.1.u64 (by omega), s_isUp_is (S1.2.2.2.2.1.2.1.trans S1.1.2.2.1) S1.1.u64 (by omega), Option.bind_some]
    try dsimp only
    cases hb : ub u1 p with
    | false =>
      rw [if_pos (show b2 false = 0 from rfl), if_pos (show b2 false = 0 from rfl), Int32.add_zero, nI_1]
      obtain ⟨Iz2, g1, g2⟩ := rest_go (r := k) (t := t) (m := m) (tl := tl) hp j (k + 1) g (e + 1) u1 I1 Iz1 (by omega) (by omega) (by omega) S1 hN1.2.2.2.1 n1 n2 (fun i hi => (n5 i hi).2) hb
      exact ⟨k, I1, Iz2, by rw [if_neg (show ¬ k = m by omega)], g1, by omega, fx, fr.tr g2, by rw [if_neg (show ¬ false = true by decide)]⟩
    | true =>
      rw [if_neg (show ¬ b2 true = 0 by decide), if_neg (show ¬ b2 true = 0 by decide), nI_1]
      obtain ⟨r, I2, Iz2, g1, g2, g3, g4, g5, g6⟩ := ih (k + 1) f g (e + 1) u1 I1 Iz1 (by omega) (by omega) (by omega) (by omega) S1 hN1
      exact ⟨r, I2, Iz2, g1, g2, g3, fx.tr g4, fr.tr g5, by rw [if_pos rfl]; exact g6⟩
/-- how many minutes one stands, on both sides, and by the model -/
theorem minx_is {t m p : Nat} {tl : Nat → Nat} (hc : c = x + 4 ∨ x + 224 ≤ c) (ha : a + 6 < x + 108 ∨ x + 109 < a) (hp : p < n) (he : e < 900000) (hS : Sm T I P a c Iz z n u tn LT LP e false) (hN : Ngt I x Iz Jz z t m tn tl) : ∃ r I1 Iz1, ni_minutesUp 2000 T I P x c a (nI p) = some (nI r, I1) ∧ r_standsIn 2000 Iz Jz z (nI t) (nI p) = some (nI r, Iz1) ∧ r ≤ m ∧ Fx I I1 a c ∧ Fr Iz Iz1 z ∧ r = mmin LT LP n tl p m 0 u (Iz (z + 1)) := by
  have hm := hN.2.1
  obtain ⟨r, I1, Iz1, e1, e2, e3, e4, e5, e6⟩ := minx_go hc ha hp m 0 2000 2000 e u I Iz (by omega) (by omega) (by omega) (by omega) hS hN
  have e1 : ni_minutesUp_3 2000 T P x c a (nI p) 2000 0 I = _ := e1
  have e2 : r_standsIn_5 2000 Jz z (nI t) (nI p) 2000 0 0 Iz = _ := e2
  unfold ni_minutesUp r_standsIn
  rw [e1, e2, Option.bind_some, Option.bind_some]
  refine ⟨r, I1, Iz1, ?_, rfl, e3, e4, e5, e6⟩
  by_cases er : r = m
  · rw [if_pos er]
    show some (I1 (x + 108) 1, I1) = _
    rw [(hN.go hc ha e4 e5).2.2.1, er]
  · rw [if_neg er]
end
/-- people stand in an order -/
def mor1 (A : Row) (o : List Nat) : Nat → Row
  | 0 => A
  | k + 1 => upd (mor1 A o k) (35 + o.getD k 0) (nI k)
theorem mor1_o {A : Row} {o : List Nat} {n q : Nat} (ho : ∀ k, k < n → o.getD k 0 < 6) (hq : q < 35 ∨ 41 ≤ q) : ∀ k, k ≤ n → mor1 A o k q = A q
  | 0, _ => rfl
  | k + 1, hk => by
    have := ho k (by omega)
    rw [mor1, pk_un (by omega), mor1_o ho hq k (by omega)]
theorem mor1_e {A : Row} {o : List Nat} {n : Nat} (hp : Pm n o) {i : Nat} : ∀ k, k ≤ n → i < k → mor1 A o k (35 + o.getD i 0) = nI i
  | 0, _, h => by omega
  | k + 1, hk, h => by
    rw [mor1]
    by_cases e : i = k
    · subst e; rw [pk_us]
    · rw [pk_un (fun cc => e (hp.2.2.1 i (by omega) k (by omega) (by omega)))]
      exact mor1_e hp k (by omega) (by omega)
theorem spo_mor {A : Row} {o : List Nat} {n i : Nat} (hn : n ≤ 6) (hp : Pm n o) (hi : i < n) : spo (mor1 A o n) (o.getD i 0) = i := by
  unfold spo
  rw [mor1_e hp n (Nat.le_refl _) hi, nI_cl (by omega)]
theorem Wf.mor {A : Row} {o : List Nat} {n u : Nat} (h : Wf A n u) (hp : Pm n o) : Wf (mor1 A o n) n u := by
  have hn := h.1
  have h6 : ∀ k, k < n → o.getD k 0 < 6 := fun k hk => by have := hp.2.1 k hk; omega
  refine ⟨hn, by rw [mor1_o h6 (by omega) n (Nat.le_refl _)]; exact h.2.1, by rw [mor1_o h6 (by omega) n (Nat.le_refl _)]; exact h.2.2.1, h.2.2.2.1, fun p hpn => ?_, fun p hpn q hqn e => ?_, fun s hs => ?_⟩
  · obtain ⟨k, hk, rfl⟩ := hp.2.2.2 p hpn
    rw [spo_mor hn hp hk, mor1_e hp n (Nat.le_refl _) hk]
    exact ⟨hk, rfl⟩
  · obtain ⟨k, hk, rfl⟩ := hp.2.2.2 p hpn
    obtain ⟨k', hk', rfl⟩ := hp.2.2.2 q hqn
    rw [spo_mor hn hp hk, spo_mor hn hp hk'] at e
    rw [e]
  · exact ⟨o.getD s 0, hp.2.1 s hs, spo_mor hn hp hs⟩
section
variable {T : Nat → Option (Nat × Nat)} {I : Nat → Nat → Int32} {J : Nat → Nat → Int64} {P : Nat → Nat → Option Nat} {x nn a c : Nat} {Iz : Nat → Nat → Int32} {Jz : Nat → Nat → Int64} {z N n u tn : Nat} {LT LP : Row → Int32} {d na v e : Nat}
theorem arr_go {qa : Nat} {o : List Nat} (hn : n ≤ 6) (hp : Pm n o) (hL : lenT T qa = 6) (hqa : qa ≠ a + 5 ∧ qa ≠ a + 6) : ∀ (j k f : Nat) (I : Nat → Nat → Int32), k + j = n → j < f → I a 0 = nI n → (∀ i, i < n → I qa i = nI (o.getD i 0)) → (∀ i, i < k → I (a + 6) i = nI (o.getD i 0) ∧ I (a + 5) (o.getD i 0) = nI i) →
    ∃ I1, s_arrange_2 2000 T a qa f (nI k) I = some (nI n, I1) ∧ (∀ i, i < n → I1 (a + 6) i = nI (o.getD i 0) ∧ I1 (a + 5) (o.getD i 0) = nI i) ∧ ∀ q, q ≠ a + 5 → q ≠ a + 6 → I1 q = I q := by
  intro j
  induction j with
  | zero =>
    intro k f I hk hf h0 hq hd
    obtain ⟨f, rfl⟩ : ∃ f', f = f' + 1 := ⟨f - 1, by omega⟩
    obtain rfl : k = n := by omega
    refine ⟨I, ?_, hd, fun _ _ _ => rfl⟩
    rw [s_arrange_2, h0, if_pos (nI_le (Nat.le_refl _) (by omega))]
  | succ j ih =>
    intro k f I hk hf h0 hq hd
    obtain ⟨f, rfl⟩ : ∃ f', f = f' + 1 := ⟨f - 1, by omega⟩
    have ok := hp.2.1 k (by omega)
    rw [s_arrange_2, h0, if_neg (nI_ge (by omega) (by omega)), hL, chk_nI (show k < 6 by omega) (by decide), chk_nI (show k < 6 by omega) (by decide), nI_cl (show k < 2147483648 by omega), hq k (by omega)]
    try dsimp only
    have r4 : uI I (a + 6) k (nI (o.getD k 0)) qa = I qa := uI_row _ _ _ _ _ hqa.2
    rw [r4, hq k (by omega), chk_nI (show o.getD k 0 < 6 by omega) (by decide), nI_cl (show o.getD k 0 < 2147483648 by omega), nI_1]
    generalize hI7 : uI (uI I (a + 6) k (nI (o.getD k 0))) (a + 5) (o.getD k 0) (nI k) = I7
    have o7 : ∀ q, q ≠ a + 5 → q ≠ a + 6 → I7 q = I q := fun q h1 h2 => by rw [← hI7, uI_row _ _ _ _ _ h1, uI_row _ _ _ _ _ h2]
    obtain ⟨I1, e1, e2, e3⟩ := ih (k + 1) f I7 (by omega) (by omega) (by rw [o7 _ (by omega) (by omega)]; exact h0) (fun i hi => by rw [o7 _ hqa.1 hqa.2]; exact hq i hi) (fun i hi => by
      rw [← hI7, uI_row _ _ _ _ _ (show a + 6 ≠ a + 5 by omega)]
      by_cases e : i = k
      · subst e
        rw [uI_e, uI_e]
        exact ⟨rfl, rfl⟩
      · rw [uI_k _ _ _ _ _ e, uI_k _ _ _ _ _ (fun cc => e (hp.2.2.1 i (by omega) k (by omega) cc)), uI_row _ _ _ _ _ (by omega)]
        exact hd i (by omega))
    exact ⟨I1, e1, e2, fun q h1 h2 => by rw [e3 q h1 h2, o7 q h1 h2]⟩
theorem arrange_is {qa : Nat} {o : List Nat} {A : Row} {w : Bool} (hn : n ≤ 6) (hp : Pm n o) (hL : lenT T qa = 6) (hqa : qa ≠ a + 5 ∧ qa ≠ a + 6) (hR : RS I a n A w) (hq : ∀ i, i < n → I qa i = nI (o.getD i 0)) : ∃ I1, s_arrange 2000 T I a qa = some I1 ∧ RS I1 a n (mor1 A o n) w ∧ ∀ q, q ≠ a + 5 → q ≠ a + 6 → I1 q = I q := by
  have h6 : ∀ k, k < n → o.getD k 0 < 6 := fun k hk => by have := hp.2.1 k hk; omega
  obtain ⟨I1, e1, e2, e3⟩ := arr_go hn hp hL hqa n 0 2000 I (by omega) (by omega) hR.1 hq (fun i hi => by omega)
  have e1 : s_arrange_2 2000 T a qa 2000 0 I = _ := e1
  unfold s_arrange
  rw [e1, Option.bind_some]
  obtain ⟨r0, r1, r2, r3, r4⟩ := hR
  refine ⟨I1, rfl, ⟨by rw [e3 _ (by omega) (by omega)]; exact r0, by rw [e3 _ (by omega) (by omega), mor1_o h6 (by omega) n (Nat.le_refl _)]; exact r1, by rw [e3 _ (by omega) (by omega), mor1_o h6 (by omega) n (Nat.le_refl _)]; exact r2, by rw [e3 _ (by omega) (by omega), mor1_o h6 (by omega) n (Nat.le_refl _)]; exact r3, fun p hpn => ?_⟩, e3⟩
  obtain ⟨s1, s2, s3, s4, s5, s6⟩ := r4 p hpn
  obtain ⟨k, hk, ek⟩ := hp.2.2.2 p hpn
  obtain ⟨t1, t2⟩ := e2 k hk
  have sp := spo_mor (A := A) hn hp hk
  have me := mor1_e (A := A) hp n (Nat.le_refl _) hk
  rw [ek] at t1 t2 sp me
  rw [e3 (a + 1) (by omega) (by omega), e3 (a + 2) (by omega) (by omega), e3 (a + 3) (by omega) (by omega), e3 (a + 4) (by omega) (by omega), mor1_o (q := 41 + p) h6 (by omega) n (Nat.le_refl _), mor1_o (q := 47 + p) h6 (by omega) n (Nat.le_refl _), mor1_o (q := 59 + p) h6 (by omega) n (Nat.le_refl _), mor1_o (q := 53 + p) h6 (by omega) n (Nat.le_refl _), me, sp, t1, t2]
  exact ⟨s1, s2, s3, s4, rfl, rfl⟩
theorem sm_mor {o : List Nat} (h : InvK T I J P x nn c Iz Jz z N n u tn LT LP v) {I1 Iz1 : Nat → Nat → Int32} (hp : Pm n o) (hI : ∀ q, ¬ Scr x c q → I1 q = I q) (hR : RS I1 (x + 101) n (mor1 (Iz (z + 1)) o n) true) (hz : Iz1 (z + 1) = mor1 (Iz (z + 1)) o n) : ∃ e, e ≤ 50 * N ∧ Sm T I1 P (x + 101) c Iz1 z n u tn LT LP e true := by
  obtain ⟨g1, ⟨k1, k2, k3, k4, k5, k6, k7, e, k8, k9, k10⟩, -⟩ := id h
  have hn := k2.1
  have h6 : ∀ k, k < n → o.getD k 0 < 6 := fun k hk => by have := hp.2.1 k hk; omega
  have mo : ∀ q, q < 35 ∨ 41 ≤ q → mor1 (Iz (z + 1)) o n q = Iz (z + 1) q := fun q hq => mor1_o h6 hq n (Nat.le_refl _)
  have hc := g1 c (Or.inl rfl)
  refine ⟨e, k8, ?_⟩
  unfold Sm
  rw [hz]
  refine ⟨k2.mor hp, k3.same (fun k hk => mo k (by omega)), k4.same (fun k hk => mo k (by omega)), (k5.row (fun k hk => mo k (by omega))).same (fun q a1 a2 => hI q (fun cc => ?_)) (fun w hw => hI _ (fun cc => ?_)), hR, ⟨by rw [mo _ (by omega)]; exact k7.1, k7.2⟩, h.apt (by omega) (by omega), by rw [mo _ (by omega)]; exact k9, fun r hr => (k10 r hr).row (mo _ (by omega)) (mo _ (by omega))⟩
  · have := hc.1.1
    unfold Scr at cc
    omega
  · have := hc.1.2.2 w hw
    have := (hc.2 c (Or.inl rfl)).2 w hw
    unfold Scr at cc
    omega
end
