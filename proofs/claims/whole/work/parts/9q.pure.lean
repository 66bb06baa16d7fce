/-! all that holds between two calls -/
def Mem (I : Nat → Nat → Int32) (J : Nat → Nat → Int64) (x : Nat) (Iz : Nat → Nat → Int32) (Jz : Nat → Nat → Int64) (z v : Nat) : Prop := Mwai I x Iz z v ∧ Mmus I x Iz Jz z v ∧ Mcha I J x Iz z v ∧ Mrow I x Iz Jz z v
section
variable {T : Nat → Option (Nat × Nat)} {I I2 : Nat → Nat → Int32} {J J2 : Nat → Nat → Int64} {P P2 : Nat → Nat → Option Nat} {x nn c : Nat} {Iz Iz2 : Nat → Nat → Int32} {Jz Jz2 : Nat → Nat → Int64} {z N n u tn : Nat} {LT LP : Row → Int32} {d na v : Nat}
theorem Mem.past (h : Mem I J x Iz Jz z v) (e1 : I2 (x + 116) 0 = I (x + 116) 0) (e2 : I2 (x + 216) 0 = I (x + 216) 0) (e3 : I2 (x + 221) 0 = I (x + 221) 0) (e4 : I2 (x + 111) 0 = I (x + 111) 0) : Mem I2 J2 x Iz2 Jz2 z (v + 1) := ⟨h.1.past e1, h.2.1.past e2, h.2.2.1.past e3, h.2.2.2.past e4⟩
theorem Mem.keep (h : Mem I J x Iz Jz z v) (hx : KeepM I I2 x) (hy : KeepY Iz Iz2 z) (hz : Jz2 (z + 20) = Jz (z + 20)) (hj : J2 (x + 222) = J (x + 222)) (hj2 : J2 (x + 219) 2 = J (x + 219) 2) : Mem I2 J2 x Iz2 Jz2 z v := by
  obtain ⟨k1, k2, k3, k4⟩ := hx.parts
  exact ⟨h.1.keep k2 hy, h.2.1.keep k3 hy hz, h.2.2.1.keep k4 hj hj2 hy, h.2.2.2.keep k1 hy hz⟩
theorem InvS.nxt (h : InvS T I J P x nn c Iz Jz z N n u tn LT LP d na v) : InvS T I J P x nn c Iz Jz z (N + 1) n u tn LT LP d na v := by
  have h' := h
  obtain ⟨g1, g2, g3, g4, g5, g6, g7, g8, g9, g10⟩ := h'
  exact h.swap (by omega) rfl rfl (fun _ _ _ _ => rfl) g4 g5 g6 g8 ⟨g9, by omega⟩
def InvF (T : Nat → Option (Nat × Nat)) (I : Nat → Nat → Int32) (J : Nat → Nat → Int64) (P : Nat → Nat → Option Nat) (x nn c : Nat) (Iz : Nat → Nat → Int32) (Jz : Nat → Nat → Int64) (z N : Nat) : Prop := (isSR T P x ∧ P x 3 = some c ∧ Tlt T nn ∧ x + 224 ≤ nn) ∧ ∃ n u tn LT LP d na v, InvS T I J P x nn c Iz Jz z N n u tn LT LP d na v ∧ Mem I J x Iz Jz z v
theorem fin_done (hs : isSR T P x ∧ P x 3 = some c ∧ Tlt T nn ∧ x + 224 ≤ nn) (hM : Mem I J x Iz Jz z v) (h : Done T I I2 J2 P x nn c Iz2 Jz2 z N v) : InvF T I2 J2 P x nn c Iz2 Jz2 z (N + 1) := by
  obtain ⟨⟨n, u, tn, LT, LP, d, na, h⟩, e⟩ := h
  exact ⟨hs, n, u, tn, LT, LP, d, na, v + 1, h, hM.past (by rw [e _ (by omega) (by omega) (by omega)]) (by rw [e _ (by omega) (by omega) (by omega)]) (by rw [e _ (by omega) (by omega) (by omega)]) (by rw [e _ (by omega) (by omega) (by omega)])⟩
theorem fin_unq (hs : isSR T P x ∧ P x 3 = some c ∧ Tlt T nn ∧ x + 224 ≤ nn) (hI : InvS T I J P x nn c Iz Jz z N n u tn LT LP d na v) (hM : Mem I J x Iz Jz z v) (h : Unq I I2 x c Iz Iz2 z) (hp : PX x P P2) (hs2 : isSR T P2 x ∧ P2 x 3 = some c) : InvF T I2 J P2 x nn c Iz2 Jz z (N + 1) := ⟨⟨hs2.1, hs2.2, hs.2.2⟩, n, u, tn, LT, LP, d, na, v, (hI.keep hs.1 h.1 (fun _ _ => rfl) hp h.2.1).nxt, hM.keep h.2.2 h.2.1.y rfl rfl rfl⟩
theorem fin_unch (hs : isSR T P x ∧ P x 3 = some c ∧ Tlt T nn ∧ x + 224 ≤ nn) (hI : InvS T I J P x nn c Iz Jz z N n u tn LT LP d na v) (hM : Mem I J x Iz Jz z v) (h : KeepX I I2 x c ∧ KeepZ Iz Iz2 z ∧ ∀ q, x + 101 ≤ q → q < x + 224 → I2 q = I q) : InvF T I2 J P x nn c Iz2 Jz z (N + 1) := by
  have r : ∀ q, x + 101 ≤ q → q < x + 224 → I2 q = I q := h.2.2
  refine fin_unq hs hI hM ⟨h.1, h.2.1, r _ (by omega) (by omega), r _ (by omega) (by omega), r _ (by omega) (by omega), r _ (by omega) (by omega), r _ (by omega) (by omega), r _ (by omega) (by omega), r _ (by omega) (by omega), ?_, ?_, ?_⟩ (fun _ _ _ _ => rfl) ⟨hs.1, hs.2.1⟩
  · rw [r (x + 108) (by omega) (by omega)]
  · rw [r (x + 114) (by omega) (by omega)]
  · rw [r (x + 214) (by omega) (by omega)]
theorem fin_same (hs : isSR T P x ∧ P x 3 = some c ∧ Tlt T nn ∧ x + 224 ≤ nn) (hI : InvS T I J P x nn c Iz Jz z N n u tn LT LP d na v) (hM : Mem I J x Iz Jz z v) (h : KeepZ Iz Iz2 z) : InvF T I J P x nn c Iz2 Jz z (N + 1) := fin_unch hs hI hM ⟨KeepX.rf, h, fun _ _ _ => rfl⟩
theorem feed_rows {g1 g2 g3 g4 g5 : Int32} : ∀ (k : Nat) (l : Int32) (I : Nat → Nat → Int32) (r : Int32 × (Nat → Nat → Int32)), r_feed_24 2000 z g1 g2 g3 g4 g5 k l I = some r → ∀ q, q ≠ z → q ≠ z + 3 → r.2 q = I q := by
  intro k
  induction k with
  | zero => intro l I r h; cases h
  | succ k ih =>
    intro l I r h q h1 h2
    have st : ∀ (w y : Int32) (j : Nat), uI (uI I (z + 3) j w) z 5 y q = I q := fun w y j => by rw [uI_row _ _ _ _ _ h1, uI_row _ _ _ _ _ h2]
    rw [r_feed_24] at h
    split at h
    · obtain rfl := Option.some.inj h; rfl
    split at h
    · split at h
      · split at h
        · split at h
          · obtain ⟨_, h⟩ := chk_some h
            exact (ih _ _ r h q h1 h2).trans (st _ _ _)
          · obtain ⟨_, h⟩ := chk_some h
            exact (ih _ _ r h q h1 h2).trans (st _ _ _)
        · obtain ⟨_, h⟩ := chk_some h
          exact (ih _ _ r h q h1 h2).trans (st _ _ _)
      · obtain ⟨_, h⟩ := chk_some h
        exact (ih _ _ r h q h1 h2).trans (st _ _ _)
    · obtain ⟨_, h⟩ := chk_some h
      exact (ih _ _ r h q h1 h2).trans (st _ _ _)
theorem feed_y {g1 g2 g3 g4 g5 r : Int32} (h : r_feed 2000 Iz z g1 g2 g3 g4 g5 = some (r, Iz2)) : KeepY Iz Iz2 z := by
  have rows : ∀ q, q ≠ z → q ≠ z + 3 → Iz2 q = Iz q := fun q h1 h2 => by
    unfold r_feed at h
    try dsimp only at h
    split at h
    · obtain ⟨w, e, h⟩ := bnd_some h
      have := feed_rows _ _ _ w e q h1 h2
      rw [uI_row _ _ _ _ _ h1] at this
      have h := Option.some.inj h
      injection h with _ h
      rw [← h]
      exact this
    · have h := Option.some.inj h
      injection h with _ h
      rw [← h, uI_row _ _ _ _ _ h1]
  exact ⟨fun k _ => by rw [rows _ (by omega) (by omega)], rows _ (by omega) (by omega), rows _ (by omega) (by omega)⟩
theorem fin_feed {g1 g2 g3 g4 g5 : Int32} (hs : isSR T P x ∧ P x 3 = some c ∧ Tlt T nn ∧ x + 224 ≤ nn) (hI : InvS T I J P x nn c Iz Jz z N n u tn LT LP d na v) (hM : Mem I J x Iz Jz z v) : ∃ r I2 Iz2, x_feed 2000 I x g1 g2 g3 g4 g5 = some (r, I2) ∧ r_feed 2000 Iz z g1 g2 g3 g4 g5 = some (r, Iz2) ∧ InvF T I2 J P x nn c Iz2 Jz z (N + 1) := by
  obtain ⟨r, I2, Iz2, e1, e2, e3, e4⟩ := feed_call hI g1 g2 g3 g4 g5
  exact ⟨r, I2, Iz2, e1, e2, hs, n, u, tn, LT, LP, d, na, v, e3.nxt, hM.keep e4 (feed_y e2) rfl rfl rfl⟩
end
