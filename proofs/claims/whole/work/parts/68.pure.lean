/-! trays: write -/
section
variable {T : Nat → Option (Nat × Nat)} {I : Nat → Nat → Int32} {J : Nat → Nat → Int64} {P : Nat → Nat → Option Nat} {x nn a c : Nat} {Iz : Nat → Nat → Int32} {Jz : Nat → Nat → Int64} {z N n u tn : Nat} {LT LP : Row → Int32} {d na v e : Nat}
theorem cut_is {ty : Nat} {s : Int32} {y : Int64} (h : I ty 2 = s) : ty_cut I ty y = r_cut y s := by
  unfold ty_cut r_cut
  rw [h]
theorem write_call (h : InvS T I J P x nn c Iz Jz z N n u tn LT LP d na v) (hN : N < 600) (a b : Int32) (w : Int64) : ∃ r I2 J2 Iz2 Jz2, x_write I J x a b w = some (r, I2, J2) ∧ r_write Iz Jz z a b w = some (r, Iz2, Jz2) ∧ KeepT J J2 x ∧ (Done T I I2 J2 P x nn c Iz2 Jz2 z N v ∨ (Unq I I2 x c Iz Iz2 z ∧ J2 = J ∧ Jz2 = Jz)) := by
  have hcx := (h.1 c (Or.inl rfl)).1.1
  have kt : KeepT J J x := fun _ _ => rfl
  unfold x_write r_write
  try dsimp only
  rcases arg_cases a 4 (by decide) with ha | ⟨t, ht, rfl⟩
  · rw [noTray_bad ha, rnoTray_bad ha, if_neg (show ¬ (1 : Int32) = 0 by decide), Option.bind_some]
    try dsimp only
    rw [if_neg (show ¬ (-2 : Int32) = 0 by decide)]
    exact ⟨_, _, _, _, _, rfl, rfl, kt, Or.inr ⟨unq_0, rfl, rfl⟩⟩
  obtain ⟨m, t1, t2, t3, t4, t5⟩ := h.2.2.2.1 t ht
  have z18 : uI Iz z 0 0 (z + 18) = Iz (z + 18) := thr_row (by decide)
  have z19 : uI Iz z 0 0 (z + 19) = Iz (z + 19) := thr_row (by decide)
  rw [noTray_ok ht, rnoTray_ok ht, if_pos rfl, Option.bind_some, chk_nI (k := t) (N := 4) ht (by decide), nI_cl (show t < 2147483648 by omega), missing_is t4, z18]
  try dsimp only
  by_cases e0 : Iz (z + 18) t = -1
  · rw [if_pos e0, if_pos e0, if_neg (show ¬ (1 : Int32) = 0 by decide), if_neg (show ¬ (-6 : Int32) = 0 by decide)]
    exact ⟨_, _, _, _, _, rfl, rfl, kt, Or.inr ⟨unq_0, rfl, rfl⟩⟩
  rw [if_neg e0, if_neg e0, if_pos rfl, if_pos rfl, chk_nI (k := t) (N := 4) ht (by decide), z19, t2]
  rcases arg_cases b m (by omega) with hb | ⟨i, hi, rfl⟩
  · rw [within_bad (by omega) hb, if_pos rfl]
    by_cases c0 : b < 0
    · rw [if_pos c0]
      exact ⟨_, _, _, _, _, rfl, rfl, kt, Or.inr ⟨unq_0, rfl, rfl⟩⟩
    · have c1 : ¬ b < I (x + (135 + 2 * t)) 1 := fun cc => by
        rw [t3] at cc
        rcases hb with hb | hb
        · exact c0 hb
        have e1 := Int32.lt_iff_toInt_lt.mp cc
        have e2 := Int32.le_iff_toInt_le.mp hb
        omega
      rw [if_neg c0, if_neg c1]
      exact ⟨_, _, _, _, _, rfl, rfl, kt, Or.inr ⟨unq_0, rfl, rfl⟩⟩
  rw [within_ok (by omega) hi, if_neg (show ¬ (1 : Int32) = 0 by decide), if_neg (show ¬ nI i < 0 from nI_nlt (b := 0) (by omega) (by omega)), if_pos (show nI i < I (x + (135 + 2 * t)) 1 by rw [t3]; exact (nI_ltI (by omega) (by omega)).mpr hi), chk_nI (k := i) (N := 40) (by omega) (by decide), nI_cl (show i < 2147483648 by omega), show (40 : Int32) * nI t = nI (40 * t) from pk_mul 40 t, nI_add, chk_nI (k := 40 * t + i) (N := 160) (by omega) (by decide), nI_cl (show 40 * t + i < 2147483648 by omega), cut_is t4]
  try dsimp only
  rw [uJ_e, uJ_e]
  refine ⟨_, _, _, _, _, rfl, rfl, fun q hq => uJ_row _ _ _ _ _ (by omega), Or.inl ⟨⟨n, u, tn, LT, LP, d, na, ?_⟩, fun q a1 a2 a3 => uI_row _ _ _ _ _ (by omega)⟩⟩
  have h9 : I x 9 = nI v := h.2.2.2.2.2.2.2.1
  refine h.swap (by omega) (thr_row (by decide)) (thr_row (by decide)) (fun q b1 b2 b3 => uI_row _ _ _ _ _ (by unfold Scr at b1; omega)) ?_ ?_ ?_ (by rw [uI_e, h9, nI_1]) ⟨by omega, by have := h.2.2.2.2.2.2.2.2.2; omega⟩
  · intro t' ht'
    obtain ⟨m', a1, a2, a3, a4, a5⟩ := h.2.2.2.1 t' ht'
    refine ⟨m', a1, by rw [z19]; exact a2, by rw [uI_row _ _ _ _ _ (by omega)]; exact a3, by rw [uI_row _ _ _ _ _ (by omega), z18]; exact a4, fun i' hi' => ?_⟩
    by_cases et : t' = t
    · subst et
      by_cases ei : i' = i
      · subst ei; rw [uJ_e, uJ_e]
      · rw [uJ_k _ _ _ _ _ ei, uJ_k _ _ _ _ _ (by omega)]; exact a5 i' hi'
    · rw [uJ_row _ _ _ _ _ (by omega), uJ_k _ _ _ _ _ (by omega)]; exact a5 i' hi'
  · obtain ⟨tp, a1, a2, a3, a4⟩ := h.2.2.2.2.1
    refine ⟨tp, a1, by rw [uI_k _ _ _ _ _ (by decide)]; exact a2, by rw [uI_k _ _ _ _ _ (by decide)]; exact a3, fun k hk => ?_⟩
    rw [uI_row _ _ _ _ _ (by omega), uI_row _ _ _ _ _ (by omega)]
    exact a4 k hk
  · obtain ⟨f1, f2⟩ := h.2.2.2.2.2.1
    rw [uI_row _ _ _ _ _ (by omega), uI_k _ _ _ _ _ (by decide), uI_k _ _ _ _ _ (by decide)]
    exact ⟨f1, f2⟩
end
