/-! a deed done and kept for undoing, on both sides -/
theorem Cst.same {T : Nat → Option (Nat × Nat)} {I I' : Nat → Nat → Int32} {P : Nat → Nat → Option Nat} {a k : Nat} {A : Row} {n u tn : Nat} {LT LP : Row → Int32} {N N' : Nat} (h : Cst T I P a k A n u tn LT LP N) (hN : N ≤ N') (hb : ∀ q, k ≤ q → q ≤ k + 4 → I' q = I q) (hl : ∀ w, P k 8 = some w ∨ P k 9 = some w → I' (w + 1) = I (w + 1)) (ha : ∀ q, a ≤ q → q ≤ a + 6 → I' q = I q) : Cst T I' P a k A n u tn LT LP N' := by
  obtain ⟨h1, h2, h3, h4, h5, h6, h7, h8⟩ := h
  exact ⟨h1, h2, h3, h4, h5.same hb hl, h6.same ha, h7, h8.row h2.1 hN (fun _ _ _ => rfl)⟩
def KeepZ1 (Iz Iz' : Nat → Nat → Int32) (z : Nat) : Prop := Iz' (z + 2) = Iz (z + 2) ∧ Iz' (z + 3) = Iz (z + 3) ∧ Iz' (z + 18) = Iz (z + 18) ∧ Iz' (z + 19) = Iz (z + 19) ∧ Iz' z 5 = Iz z 5 ∧ Iz' z 13 = Iz z 13 ∧ Iz' z 14 = Iz z 14
theorem KeepZ1.of {Iz Iz' : Nat → Nat → Int32} {z : Nat} (h : ∀ q, q ≠ z + 1 → (q ≤ z + 3 ∨ z + 18 ≤ q) → Iz' q = Iz q) : KeepZ1 Iz Iz' z :=
  ⟨h _ (by omega) (by omega), h _ (by omega) (by omega), h _ (by omega) (by omega), h _ (by omega) (by omega), by rw [h _ (by omega) (by omega)], by rw [h _ (by omega) (by omega)], by rw [h _ (by omega) (by omega)]⟩
theorem KeepZ1.tr {I I1 I2 : Nat → Nat → Int32} {z : Nat} (h : KeepZ1 I I1 z) (h2 : KeepZ1 I1 I2 z) : KeepZ1 I I2 z := by
  obtain ⟨a2, a3, a4, a5, a6, a7, a8⟩ := h
  obtain ⟨b2, b3, b4, b5, b6, b7, b8⟩ := h2
  exact ⟨b2.trans a2, b3.trans a3, b4.trans a4, b5.trans a5, b6.trans a6, b7.trans a7, b8.trans a8⟩
theorem KeepZ.one {Iz Iz' : Nat → Nat → Int32} {z : Nat} (h : KeepZ Iz Iz' z) : KeepZ1 Iz Iz' z := h.2
section
variable {T : Nat → Option (Nat × Nat)} {I : Nat → Nat → Int32} {J : Nat → Nat → Int64} {P : Nat → Nat → Option Nat} {x nn c : Nat} {Iz : Nat → Nat → Int32} {Jz : Nat → Nat → Int64} {z N n u tn : Nat} {LT LP : Row → Int32} {d na v : Nat}
/-- the state on both sides has become another one; all else is as it was -/
theorem InvS.turn (h : InvS T I J P x nn c Iz Jz z N n u tn LT LP d na v) {I2 Iz2 : Nat → Nat → Int32} {u1 N' d' na' v' : Nat} (hN : N ≤ N') (hout : ∀ k, (k < 32 ∨ 396 ≤ k) → Iz2 (z + 1) k = Iz (z + 1) k) (hwf : Wf (Iz2 (z + 1)) n u1) (hev : Ev (Iz2 (z + 1)) n N') (hR : RS I2 (x + 12) n (Iz2 (z + 1)) true)
    (hP : PastR I2 x (Iz2 (z + 1)) n N' d' na') (hI : ∀ q, ¬ Scr x c q → ¬ (x + 12 ≤ q ∧ q ≤ x + 90) → I2 q = I q) (h1 : I2 x 1 = I x 1) (h9 : I2 x 9 = nI v') (hv : 1 ≤ v' ∧ v' ≤ N' + 1) (h20 : I2 (x + 2) 0 = I (x + 2) 0) (h21 : I2 (x + 2) 1 = I (x + 2) 1) (hZ : KeepZ1 Iz Iz2 z) : InvS T I2 J P x nn c Iz2 Jz z N' n u1 tn LT LP d' na' v' := by
  obtain ⟨g1, g2, g3, g4, g5, g6, g7, g8, g9, g10⟩ := h
  obtain ⟨z2, z3, z4, z5, z6, z7, z8⟩ := hZ
  obtain ⟨k1, k2, k3, k4, k5, k6, k7, k8⟩ := g2
  have hcc := g1 c (Or.inl rfl)
  have hcx := hcc.1.1
  have nb : ∀ k, Lc P x c k → ∀ q, k ≤ q → q ≤ k + 4 → I2 q = I q := fun k hk q a1 a2 => by
    have hk1 := (g1 k hk).1.1
    have hk2 := ((g1 k hk).2 c (Or.inl rfl)).1
    exact hI q (by unfold Scr; omega) (by omega)
  have nw : ∀ k, Lc P x c k → ∀ w, P k 8 = some w ∨ P k 9 = some w → I2 (w + 1) = I (w + 1) := fun k hk w hw => by
    have hk1 := (g1 k hk).1.2.2 w hw
    have hk2 := ((g1 k hk).2 c (Or.inl rfl)).2 w hw
    exact hI _ (by unfold Scr; omega) (by omega)
  refine ⟨g1, ⟨k1, hwf, k3.same (fun k hk => hout k (by omega)), k4.same (fun k hk => hout k (by omega)), (k5.row (fun k hk => hout k (by omega))).same (nb c (Or.inl rfl)) (nw c (Or.inl rfl)), hR, ⟨by rw [hout _ (by omega)]; exact k7.1, k7.2⟩, hev⟩, hP, ?_, ?_, ?_, fun i hi => ?_, h9, hv.1, hv.2⟩
  · intro t ht
    obtain ⟨m, a1, a2, a3, a4, a5⟩ := g4 t ht
    have e1 : I2 (x + (135 + 2 * t)) = I (x + (135 + 2 * t)) := hI _ (by unfold Scr; omega) (by omega)
    exact ⟨m, a1, by rw [z5]; exact a2, by rw [e1]; exact a3, by rw [e1, z4]; exact a4, a5⟩
  · obtain ⟨tp, a1, a2, a3, a4⟩ := g5
    have e1 : I2 (x + 1) = I (x + 1) := hI _ (by unfold Scr; omega) (by omega)
    exact ⟨tp, a1, by rw [h1]; exact a2, by rw [z6]; exact a3, fun k hk => by rw [z3, e1]; exact a4 k hk⟩
  · rw [h20, h21, z7, z8]
    exact g6
  · rcases g7 i hi with ⟨a1, a2⟩ | ⟨a1, ci, n1, w1, tn1, LT1, LP1, a2, a3⟩
    · exact Or.inl ⟨by rw [z2]; exact a1, a2⟩
    · have hL : Lc P x c ci := Or.inr ⟨i, hi, a2⟩
      have er : irow Iz2 z i = irow Iz z i := by
        funext k
        unfold irow
        exact hout _ (by omega)
      refine Or.inr ⟨by rw [z2]; exact a1, ci, n1, w1, tn1, LT1, LP1, a2, ?_⟩
      rw [er]
      exact a3.same hN (nb ci hL) (nw ci hL) (fun q b1 b2 => hI q (by unfold Scr; have := hcc.1.1; omega) (by omega))
theorem deed_keep2 (h : InvS T I J P x nn c Iz Jz z N n u tn LT LP d na v) {I1 Iz1 : Nat → Nat → Int32} {A1 : Row} {u1 : Nat} (hA1 : Iz1 (z + 1) = A1) (hout : ∀ k, ¬ (32 ≤ k ∧ k < 65) → A1 k = Iz (z + 1) k) (hwf : Wf A1 n u1) (hev : Ev A1 n (N + 1)) (hR : RS I1 (x + 12) n A1 true) (hB : RS I1 (x + 94) n (Iz (z + 1)) true)
    (hI : ∀ q, ¬ Scr x c q → ¬ (x + 12 ≤ q ∧ q ≤ x + 18) → I1 q = I q) (h01 : I1 x 1 = I x 1) (h09 : I1 x 9 = I x 9) (h2 : I1 (x + 2) = I (x + 2)) (hW : ∀ k, k < 33 → Iz1 (z + 7) k = Iz (z + 1) (32 + k)) (hZ : KeepZ1 Iz Iz1 z) :
    ∃ I2 Iz2 d' na', x_keepForUndo I1 x = some I2 ∧ r_notes 2000 Iz1 z = some Iz2 ∧ InvS T I2 J P x nn c Iz2 Jz z (N + 1) n u1 tn LT LP d' na' (v + 1) ∧ (∀ k, k < 65 → Iz2 (z + 1) k = A1 k) ∧ (∀ q, q ≠ x → ¬ (x + 19 ≤ q ∧ q ≤ x + 90) → I2 q = I1 q) ∧ ∀ q, q ≠ z + 1 → Iz2 q = Iz1 q := by
  have hn := h.n6
  obtain ⟨p1, p2, p3, p4, p5, p6⟩ := h.2.2.1
  have e19 : I1 (x + 19) = I (x + 19) := hI _ (by unfold Scr; have := (h.1 c (Or.inl rfl)).1.1; omega) (by omega)
  obtain ⟨I2, e1, f1, f2, f3, f4, f5, f6, f7⟩ := pa_keep_is (I := I1) (v := v) p1 p2 (by rw [e19]; exact p4) (by rw [e19]; exact p5) (by rw [h09]; exact h.2.2.2.2.2.2.2.1)
  obtain ⟨Iz2, e2, k1, k2⟩ := r_notes_is (I := Iz1) (z := z) p1 (by rw [hA1, hout _ (by omega)]; exact p3)
  rw [hA1] at k1
  have b1 : ∀ k, ¬ (65 ≤ k ∧ k < 396) → Iz2 (z + 1) k = A1 k := fun k hk => by rw [k1, mnote_out p1 hk]
  have hd' : (if d = 10 then 10 else d + 1) ≤ 10 := by split <;> omega
  have far : ∀ q, x + 91 ≤ q → I2 q = I1 q := fun q hq => f7 q (by omega) (by omega) (by omega)
  have near' : ∀ q, x + 1 ≤ q → q ≤ x + 18 → I2 q = I1 q := fun q h1 h2 => f7 q (by omega) (by omega) (by omega)
  refine ⟨I2, Iz2, (if d = 10 then 10 else d + 1), (na + 1) % 10, e1, e2, ?_, fun k hk => b1 k (by omega), fun q a1 a2 => f7 q a1 (by omega) (by omega), k2⟩
  refine h.turn (by omega) (fun k hk => ?_) (hwf.row (b1 _ (by omega)) (fun k a b => b1 k (by omega))) (hev.row hn (Nat.le_refl _) (fun k a b => b1 k (by omega))) ((hR.row hn (fun k a b => b1 k (by omega))).same (fun q a b => near' q (by omega) (by omega))) ?_ (fun q a b => ?_) ?_ f3 ?_ ?_ ?_ ?_
  · rw [b1 k (by omega), hout k (by omega)]
  · have hm : (na + 1) % 10 < 10 := Nat.mod_lt _ (by decide)
    refine ⟨hd', hm, ?_, f1, f2, fun j hj => ?_⟩
    · rw [k1, mnote_65]
    · have pr : ∀ k, 32 ≤ k → k < 65 → prow (Iz2 (z + 1)) j k = if j + 1 = (if d = 10 then 10 else d + 1) then Iz1 (z + 7) (k - 32) else prow A1 (if d = 10 then j + 1 else j) k := fun k a b => by
        rw [k1]
        exact mnote_prow p1 hj ⟨a, b⟩
      have pr1 : prow (Iz2 (z + 1)) j 1 = Iz (z + 1) 1 := by
        unfold prow
        rw [cpy_out (by omega), b1 _ (by omega), hout _ (by omega)]
      by_cases ej : j + 1 = (if d = 10 then 10 else d + 1)
      · have pr2 : ∀ k, 32 ≤ k → k < 65 → prow (Iz2 (z + 1)) j k = Iz (z + 1) k := fun k a b => by
          rw [pr k a b, if_pos ej, hW _ (by omega)]
          congr 1
          omega
        have ei : ((na + 1) % 10 + 10 - (if d = 10 then 10 else d + 1) + j) % 10 = na := by
          by_cases c10 : d = 10
          · rw [if_pos c10] at ej ⊢
            omega
          · rw [if_neg c10] at ej ⊢
            omega
        rw [ei]
        refine ⟨u, h.wf.row pr1 (fun k a b => pr2 k a (by omega)), ?_, h.2.1.2.2.2.2.2.2.2.row hn (by omega) (fun k a b => pr2 k a b)⟩
        have hk : RS I2 (x + (21 + 7 * na)) n (Iz (z + 1)) true := by
          obtain ⟨r0, r1, r2, r3, r4⟩ := hB
          have sp := h.wf.2.2.2.2
          refine ⟨by rw [f5 0 (by decide)]; exact r0, by rw [f5 1 (by decide)]; exact r1, by rw [f5 2 (by decide)]; exact r2, by rw [f5 3 (by decide)]; exact r3, fun p hp => ?_⟩
          have := (sp.1 p hp).1
          rw [f6 1 p (by decide) (by decide) (by omega), f6 2 p (by decide) (by decide) (by omega), f6 3 p (by decide) (by decide) (by omega), f6 4 p (by decide) (by decide) (by omega), f6 5 p (by decide) (by decide) (by omega), f6 6 _ (by decide) (by decide) (show spo (Iz (z + 1)) p < 6 by omega)]
          exact r4 p hp
        exact hk.row hn pr2
      · have pr2 : ∀ k, 32 ≤ k → k < 65 → prow (Iz2 (z + 1)) j k = prow (Iz (z + 1)) (if d = 10 then j + 1 else j) k := fun k a b => by
          rw [pr k a b, if_neg ej]
          unfold prow
          rw [cpy_in (by omega), cpy_in (by omega), hout _ (by omega)]
        have hlt : (if d = 10 then j + 1 else j) < d := by
          by_cases c10 : d = 10
          · rw [if_pos c10] at ej hj ⊢
            omega
          · rw [if_neg c10] at ej hj ⊢
            omega
        have ei : ((na + 1) % 10 + 10 - (if d = 10 then 10 else d + 1) + j) % 10 = (na + 10 - d + (if d = 10 then j + 1 else j)) % 10 := by
          by_cases c10 : d = 10
          · rw [if_pos c10, if_pos c10]
            omega
          · rw [if_neg c10, if_neg c10]
            omega
        have eo : (na + 10 - d + (if d = 10 then j + 1 else j)) % 10 ≠ na := by
          by_cases c10 : d = 10
          · rw [if_pos c10] at hlt ⊢
            omega
          · rw [if_neg c10] at hlt ⊢
            omega
        obtain ⟨uj, q1, q2, q3⟩ := p6 _ hlt
        rw [ei]
        have hm2 : (na + 10 - d + (if d = 10 then j + 1 else j)) % 10 < 10 := Nat.mod_lt _ (by decide)
        generalize (na + 10 - d + (if d = 10 then j + 1 else j)) % 10 = m at *
        have pr0 : prow (Iz (z + 1)) (if d = 10 then j + 1 else j) 1 = Iz (z + 1) 1 := cpy_out (by omega)
        refine ⟨uj, q1.row (pr1.trans pr0.symm) (fun k a b => pr2 k a (by omega)), (q2.row hn pr2).same (fun q a b => ?_), q3.row hn (by omega) pr2⟩
        rw [f7 q (by omega) (by omega) (by omega)]
        exact hI q (by unfold Scr; have := (h.1 c (Or.inl rfl)).1.1; omega) (by omega)
  · rw [f7 q (fun e => a (by unfold Scr; omega)) (by omega) (by omega)]
    exact hI q a (by omega)
  · rw [f4 1 (by decide), h01]
  · have := h.2.2.2.2.2.2.2.2
    omega
  · rw [near' _ (by omega) (by omega), h2]
  · rw [near' _ (by omega) (by omega), h2]
  · obtain ⟨z2, z3, z4, z5, z6, z7, z8⟩ := hZ
    refine ⟨by rw [k2 _ (by omega)]; exact z2, by rw [k2 _ (by omega)]; exact z3, by rw [k2 _ (by omega)]; exact z4, by rw [k2 _ (by omega)]; exact z5, by rw [k2 _ (by omega)]; exact z6, by rw [k2 _ (by omega)]; exact z7, by rw [k2 _ (by omega)]; exact z8⟩
theorem deed_keep (h : InvS T I J P x nn c Iz Jz z N n u tn LT LP d na v) {I1 Iz1 : Nat → Nat → Int32} {A1 : Row} {u1 : Nat} (hA1 : Iz1 (z + 1) = A1) (hout : ∀ k, ¬ (32 ≤ k ∧ k < 65) → A1 k = Iz (z + 1) k) (hwf : Wf A1 n u1) (hev : Ev A1 n (N + 1)) (hR : RS I1 (x + 12) n A1 true) (hB : RS I1 (x + 94) n (Iz (z + 1)) true)
    (hI : ∀ q, ¬ Scr x c q → ¬ (x + 12 ≤ q ∧ q ≤ x + 18) → I1 q = I q) (h0 : I1 x = I x) (h2 : I1 (x + 2) = I (x + 2)) (hW : ∀ k, k < 33 → Iz1 (z + 7) k = Iz (z + 1) (32 + k)) (hZ : KeepZ1 Iz Iz1 z) :
    ∃ I2 Iz2 d' na', x_keepForUndo I1 x = some I2 ∧ r_notes 2000 Iz1 z = some Iz2 ∧ InvS T I2 J P x nn c Iz2 Jz z (N + 1) n u1 tn LT LP d' na' (v + 1) ∧ (∀ k, k < 65 → Iz2 (z + 1) k = A1 k) ∧ (∀ q, q ≠ x → ¬ (x + 19 ≤ q ∧ q ≤ x + 90) → I2 q = I1 q) ∧ ∀ q, q ≠ z + 1 → Iz2 q = Iz1 q :=
  deed_keep2 h hA1 hout hwf hev hR hB hI (by rw [h0]) (by rw [h0]) h2 hW hZ
end
