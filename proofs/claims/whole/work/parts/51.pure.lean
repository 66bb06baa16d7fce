/-! trays told: judge, perform -/
section
variable {T : Nat → Option (Nat × Nat)} {I : Nat → Nat → Int32} {J : Nat → Nat → Int64} {P : Nat → Nat → Option Nat} {x nn c : Nat} {Iz : Nat → Nat → Int32} {Jz : Nat → Nat → Int64} {z N n u tn : Nat} {LT LP : Row → Int32} {d na v : Nat}
/-- all the deeds of a tray, up to the first that can't be: how many (r), why not (w) -/
def Toldall (T : Nat → Option (Nat × Nat)) (I I1 : Nat → Nat → Int32) (P : Nat → Nat → Option Nat) (a c : Nat) (Iz Iz1 : Nat → Nat → Int32) (z n tn : Nat) (LT LP : Row → Int32) (e k m r : Nat) (w : Int32) : Prop :=
  (∃ u1 e1, e1 ≤ e + (r - k) ∧ Sm T I1 P a c Iz1 z n u1 tn LT LP e1 true) ∧ Fx I I1 a c ∧ ((∀ q, q ≠ z → q ≠ z + 1 → q ≠ z + 5 → q ≠ z + 6 → q ≠ z + 8 → q ≠ z + 9 → Iz1 q = Iz q) ∧ (∀ k, k ≠ 20 → Iz1 z k = Iz z k) ∧ ∀ k, ¬ (32 ≤ k ∧ k < 65) → Iz1 (z + 1) k = Iz (z + 1) k) ∧ k ≤ r ∧ r ≤ m ∧ (w = 0 ↔ r = m) ∧ Iz1 z 20 = w ∧ (r = k → I1 = I ∧ ∀ q, q ≠ z → Iz1 q = Iz q)
theorem Sm.z20 {a e : Nat} {w0 : Bool} {w : Int32} (h : Sm T I P a c Iz z n u tn LT LP e w0) : Sm T I P a c (uI Iz z 20 w) z n u tn LT LP e w0 := by
  have e1 : uI Iz z 20 w (z + 1) = Iz (z + 1) := uI_row _ _ _ _ _ (by omega)
  unfold Sm
  rw [e1]
  exact h
theorem all_go {a t m ty : Nat} (ha : ¬ (a ≤ ty ∧ ty ≤ a + 6) ∧ ty ≠ c + 5 ∧ ty ≠ c + 6 ∧ ty ≠ c + 7) (ht : t < 4) (hm : m ≤ 40) (hJ : ∀ i, i < m → J (ty + 1) i = Jz (z + 20) (40 * t + i)) : ∀ (j k f g e u : Nat) (I Iz : Nat → Nat → Int32), k + j = m → j < f → j < g → e + j < 1000000 → Sm T I P a c Iz z n u tn LT LP e true → I ty 1 = nI m → Iz (z + 19) t = nI m → (k = m → Iz z 20 = 0) →
    ∃ r I1 Iz1 w, (x_doAll_2 2000 T J P x a ty c f (nI k) I = some (if r = m then .inr (nI m, I1) else .inl (nI r, I1))) ∧ (r_tells_7 2000 Jz z (nI t) g (nI k) Iz = some (if r = m then .inr (nI m, Iz1) else .inl (nI r, Iz1))) ∧ Toldall T I I1 P a c Iz Iz1 z n tn LT LP e k m r w ∧ (r < m → ∀ q, x_doDeed 2000 T I1 P x a c (J (ty + 1) r) = q → ∃ I2, q = some (w, I2) ∧ I2 = I1) := by
  intro j
  induction j with
  | zero =>
    intro k f g e u I Iz hk hf hg hej hS h1 h19 h20
    obtain ⟨f, rfl⟩ : ∃ f', f = f' + 1 := ⟨f - 1, by omega⟩
    obtain ⟨g, rfl⟩ : ∃ f', g = f' + 1 := ⟨g - 1, by omega⟩
    obtain rfl : k = m := by omega
    refine ⟨k, I, Iz, 0, ?_, ?_, ⟨⟨u, e, by omega, hS⟩, Fx.rf, ⟨fun _ _ _ _ _ _ _ => rfl, fun _ _ => rfl, fun _ _ => rfl⟩, Nat.le_refl _, Nat.le_refl _, ⟨fun _ => rfl, fun _ => rfl⟩, h20 rfl, fun _ => ⟨rfl, fun _ _ => rfl⟩⟩, fun hlt => absurd hlt (Nat.lt_irrefl _)⟩
    · rw [x_doAll_2, h1, if_pos (nI_le (Nat.le_refl _) (by omega)), if_pos rfl]
    · rw [r_tells_7, chk_nI ht (by decide), nI_cl (by omega), h19, if_pos (nI_le (Nat.le_refl _) (by omega)), if_pos rfl]
  | succ j ih =>
    intro k f g e u I Iz hk hf hg hej hS h1 h19 h20
    obtain ⟨f, rfl⟩ : ∃ f', f = f' + 1 := ⟨f - 1, by omega⟩
    obtain ⟨g, rfl⟩ : ∃ f', g = f' + 1 := ⟨g - 1, by omega⟩
    obtain ⟨w, I1, e1, e2, e3⟩ := cp_deed (x := x) hS (by omega) (J (ty + 1) k)
    rw [x_doAll_2, h1, if_neg (nI_ge (by omega) (by omega)), chk_nI (by omega) (by decide), nI_cl (by omega), e1, Option.bind_some]
    rw [r_tells_7, chk_nI ht (by decide), nI_cl (by omega), h19, if_neg (nI_ge (by omega) (by omega))]
    rw [show (40 : Int32) * nI t = nI (40 * t) from pk_mul 40 t, nI_add, chk_nI (by omega) (by decide), nI_cl (by omega), ← hJ k (by omega), e2, Option.bind_some]
    try dsimp only
    rw [uI_e]
    rcases e3 with ⟨f1, rfl⟩ | ⟨rfl, Iz1, f2, f3⟩
    · rw [if_neg f1, if_neg f1]
      refine ⟨k, I1, uI Iz z 20 w, w, by rw [if_neg (by omega)], by rw [if_neg (by omega)], ⟨⟨u, e, by omega, hS.z20⟩, Fx.rf, ⟨fun q a0 a1 a2 a3 a4 a5 => uI_row _ _ _ _ _ a0, fun k hk => uI_k _ _ _ _ _ hk, fun k hk => by rw [uI_row _ _ _ _ _ (by omega)]⟩, Nat.le_refl _, by omega, ⟨fun cc => absurd cc f1, fun cc => by omega⟩, uI_e _ _ _ _, fun _ => ⟨rfl, fun q hq => uI_row _ _ _ _ _ hq⟩⟩, fun hlt q hq => ?_⟩
      rw [e1] at hq
      exact ⟨I1, hq.symm, rfl⟩
    · rw [if_pos rfl, if_pos rfl]
      have z0 : uI Iz z 20 0 (z + 1) = Iz (z + 1) := uI_row _ _ _ _ _ (by omega)
      obtain ⟨w', I1', e1', e2', e3'⟩ := cp_deed (x := x) (hS.z20 (w := 0)) (by omega) (J (ty + 1) k)
      rw [e1] at e1'
      obtain ⟨rfl, rfl⟩ : w' = 0 ∧ I1' = I1 := by
        have := Option.some.inj e1'
        exact ⟨(congrArg Prod.fst this).symm, (congrArg Prod.snd this).symm⟩
      rcases e3' with ⟨f1, -⟩ | ⟨-, Iz2, f2, ⟨⟨u2, e2, he2, S2⟩, fx2, fr2⟩⟩
      · exact absurd rfl f1
      rw [f2, Option.bind_some, nI_1]
      have q19 : Iz2 (z + 19) = Iz (z + 19) := by rw [fr2.1 _ (by omega) (by omega) (by omega) (by omega) (by omega), uI_row _ _ _ _ _ (by omega)]
      have q0 : Iz2 z = uI Iz z 20 0 z := fr2.1 _ (by omega) (by omega) (by omega) (by omega) (by omega)
      obtain ⟨r, I3, Iz3, w3, g1, g2, ⟨⟨u3, e3, he3, S3⟩, fx3, ⟨fr3, fr4, fr5⟩, k1, k2, k3, k4, -⟩, g4⟩ := ih (k + 1) f g e2 u2 I1' Iz2 (by omega) (by omega) (by omega) (by omega) S2 (by rw [fx2 _ ha.1 ha.2.1 ha.2.2.1 ha.2.2.2]; exact h1) (by rw [q19]; exact h19) (fun _ => by rw [q0, uI_e])
      refine ⟨r, I3, Iz3, w3, g1, g2, ⟨⟨u3, e3, by omega, S3⟩, fx2.tr fx3, ⟨fun q a0 a1 a2 a3 a4 a5 => ?_, fun k hk => ?_, fun k hk => ?_⟩, by omega, k2, k3, k4, fun cc => by omega⟩, g4⟩
      · rw [fr3 q a0 a1 a2 a3 a4 a5, fr2.1 q a1 a2 a3 a4 a5, uI_row _ _ _ _ _ a0]
      · rw [fr4 k hk, q0, uI_k _ _ _ _ _ hk]
      · rw [fr5 k hk, fr2.2 k hk, z0]
end
