/-! court's Pair -/
section
variable {l : Launch} {D : va_G} {E : Nat → ClassId} {B Bz : Nat → Prop} {T : Nat → Option (Nat × Nat)} {I I2 : Nat → Nat → Int32} {J J2 : Nat → Nat → Int64} {P P2 : Nat → Nat → Option Nat} {x nn nn' nz c : Nat} {Tz T2 : Nat → Option (Nat × Nat)} {Iz Iz2 : Nat → Nat → Int32} {Jz Jz2 : Nat → Nat → Int64} {Pz : Nat → Nat → Option Nat} {z N : Nat} {n u tn : Nat} {LT LP : Row → Int32} {d na v : Nat}
theorem born_ex : ∃ T5 I5 J5 P5, Born nn T I J P T5 I5 J5 P5 := by
  refine ⟨fun q => if q < nn then T q else if q < nn + 8 then shc1 (q - nn) else none, fun q => if q < nn then I q else ivc1 (q - nn), fun q => if q < nn then J q else fun _ => 0, fun q => if q < nn then P q else fun i => rvl nn (rfc1 (q - nn) i), ⟨rfl, fun q hq => ⟨if_pos hq, if_pos hq, if_pos hq, if_pos hq⟩, fun k hk => ?_⟩, fun a q e => ?_⟩
  · have e1 : ¬ nn + k < nn := by omega
    have e2 : nn + k - nn = k := by omega
    refine ⟨?_, ?_, ?_, ?_⟩
    · show (if nn + k < nn then T (nn + k) else if nn + k < nn + 8 then shc1 (nn + k - nn) else none) = shc1 k
      rw [if_neg e1, if_pos (by omega), e2]
    · show (if nn + k < nn then I (nn + k) else ivc1 (nn + k - nn)) = ivc1 k
      rw [if_neg e1, e2]
    · show (if nn + k < nn then J (nn + k) else fun _ => 0) = fun _ => 0
      rw [if_neg e1]
    · show (if nn + k < nn then P (nn + k) else fun i => rvl nn (rfc1 (nn + k - nn) i)) = fun i => rvl nn (rfc1 k i)
      rw [if_neg e1, e2]
  · have e : (if a < nn then T a else if a < nn + 8 then shc1 (a - nn) else none) = some q := e
    by_cases h1 : a < nn + 8
    · exact h1
    · rw [if_neg (by omega), if_neg h1] at e
      cases e
theorem fin_ref (hs : isSR T P x ∧ P x 3 = some c ∧ Tlt T nn ∧ x + 224 ≤ nn) (hM : Mem I J x Iz Jz z v) (h : CtF T2 I I2 J J2 P2 x nn nn' c Iz Iz2 Jz z N n u tn LT LP d na v) : InvF T2 I2 J2 P2 x nn' c Iz2 Jz z (N + 1) := by
  obtain ⟨h1, h2, h3, h4, h5, h6, h7, h8⟩ := h
  have hn := hs.2.2.2
  have r : ∀ k, 101 ≤ k → k < 224 → I2 (x + k) = I (x + k) := fun k a b => h6 _ (by omega) (by omega) (by omega) (by omega)
  refine ⟨⟨h1, h2, h3, by omega⟩, n, u, tn, LT, LP, d, na, v, h5.nxt, hM.keep ⟨r _ (by omega) (by omega), r _ (by omega) (by omega), r _ (by omega) (by omega), r _ (by omega) (by omega), r _ (by omega) (by omega), r _ (by omega) (by omega), r _ (by omega) (by omega), ?_, ?_, ?_⟩ h8 rfl (h7 _ (by omega)) (by rw [h7 _ (by omega)])⟩
  · rw [r 108 (by omega) (by omega)]
  · rw [r 114 (by omega) (by omega)]
  · rw [r 214 (by omega) (by omega)]
theorem fin_told (hs : isSR T P x ∧ P x 3 = some c ∧ Tlt T nn ∧ x + 224 ≤ nn) (hM : Mem I J x Iz Jz z v) (h : CtS T2 I I2 J J2 P2 x nn nn' Iz2 Jz z N v) : InvF T2 I2 J2 P2 x nn' nn Iz2 Jz z (N + 1) := by
  obtain ⟨n, u, tn, LT, LP, d, na, h1, h2, h3, h4, h5, h6, h7⟩ := h
  have hn := hs.2.2.2
  exact ⟨⟨h1, h2, h3, by omega⟩, n, u, tn, LT, LP, d, na, v + 1, h5, hM.past (by rw [h6 _ (by omega) (by omega)]) (by rw [h6 _ (by omega) (by omega)]) (by rw [h6 _ (by omega) (by omega)]) (by rw [h6 _ (by omega) (by omega)])⟩
theorem p_court (hz : isMd Tz Pz z) (hN : N < 600) (h : InvF T I J P x nn c Iz Jz z N) (a_ : Int32) : Pair l D E B Bz yX11_court cX11_court 3 94 908 1012 yX12_court cX12_court 3 93 (some .int) [.int a_] T I J P x nn nz Tz Iz Jz Pz z N := by
  obtain ⟨hs, n, u, tn, LT, LP, d, na, v, hI, hM⟩ := h
  have hlen : lenT Tz (z + 4) = 1297 := by unfold lenT; rw [hz.1 4 (20, 1297) rfl]
  by_cases hb : a_ < 0 ∨ ¬ a_ ≤ I x 1
  · exact ⟨.int (-3), uI Iz z 0 0, Jz, (fun o h => o = some (.int (-3)) ∧ h = (nn, T, I, J, P)), rfl, c_r_court hz (court_bad (Tz := Tz) hI hb), c_x_court (F := 2000) hs.1 hs.2.2.1 (fun _ => ⟨rfl, rfl⟩) (fun h0 h1 => absurd hb (fun cc => cc.elim h0 (fun c2 => c2 h1))) (by omega) (by omega), fun o h hq => by
      obtain ⟨rfl, rfl⟩ := hq
      exact ⟨rfl, c, fin_same hs hI hM KeepZ.thr⟩⟩
  · have h0 : ¬ a_ < 0 := fun cc => hb (Or.inl cc)
    have h1 : a_ ≤ I x 1 := Classical.byContradiction (fun cc => hb (Or.inr cc))
    obtain ⟨T5, I5, J5, P5, hB0⟩ := born_ex (nn := nn) (T := T) (I := rcI (uI I x 1 0) x a_) (J := J) (P := uP P (x + 2) 2 (some (x + 1)))
    obtain ⟨r0, res, Iz2, _, _, e2, _⟩ := court_call (Tz := Tz) hs.1 hs.2.1 hs.2.2.1 hs.2.2.2 hlen hI h0 h1 hB0
    refine ⟨.int res, Iz2, Jz, (fun o h => o = some (.int res) ∧ ∃ c', InvF h.2.1 h.2.2.1 h.2.2.2.1 h.2.2.2.2 x h.1 c' Iz2 Jz z (N + 1)), rfl, c_r_court hz e2, c_x_court (F := 2000) hs.1 hs.2.2.1 (fun hh => absurd hh hb) (fun _ _ T5 I5 J5 P5 hB => ?_) (by omega) (by omega), fun o h hq => hq⟩
    obtain ⟨r, res', Iz2', f1, f2, f3, f4⟩ := court_call (Tz := Tz) hs.1 hs.2.1 hs.2.2.1 hs.2.2.2 hlen hI h0 h1 hB
    have e := Option.some.inj (f3.symm.trans e2)
    injection e with ea eb
    subst ea
    subst eb
    refine ⟨r, f1, f2, ?_⟩
    rcases f4 with ⟨q1, q2, q3⟩ | ⟨q1, I2, I3, q2, q3, q4, q5⟩
    · exact Or.inl ⟨q1, by rw [q2], c, fin_ref hs hM q3⟩
    · exact Or.inr ⟨q1, I2, I3, q2, q3, by rw [q4], nn, fin_told hs hM q5⟩
end
