theorem dX12_whySit_0 : decode cX12_whySit 0 = .ok (.aload_n 0, 1) := by decide +kernel
theorem dX12_whySit_1 : decode cX12_whySit 1 = .ok (.lload_n 1, 1) := by decide +kernel
theorem dX12_whySit_2 : decode cX12_whySit 2 = .ok (.invokevirtual 210, 3) := by decide +kernel
theorem dX12_whySit_5 : decode cX12_whySit 5 = .ok (.ifCond .ne 7, 3) := by decide +kernel
theorem dX12_whySit_8 : decode cX12_whySit 8 = .ok (.iconst 1, 1) := by decide +kernel
theorem dX12_whySit_9 : decode cX12_whySit 9 = .ok (.goto 17, 3) := by decide +kernel
theorem dX12_whySit_12 : decode cX12_whySit 12 = .ok (.aload_n 0, 1) := by decide +kernel
theorem dX12_whySit_13 : decode cX12_whySit 13 = .ok (.lload_n 1, 1) := by decide +kernel
theorem dX12_whySit_14 : decode cX12_whySit 14 = .ok (.l2i, 1) := by decide +kernel
theorem dX12_whySit_15 : decode cX12_whySit 15 = .ok (.invokevirtual 218, 3) := by decide +kernel
theorem dX12_whySit_18 : decode cX12_whySit 18 = .ok (.ifCond .eq 7, 3) := by decide +kernel
theorem dX12_whySit_21 : decode cX12_whySit 21 = .ok (.iconst 0, 1) := by decide +kernel
theorem dX12_whySit_22 : decode cX12_whySit 22 = .ok (.goto 4, 3) := by decide +kernel
theorem dX12_whySit_25 : decode cX12_whySit 25 = .ok (.iconst 2, 1) := by decide +kernel
theorem dX12_whySit_26 : decode cX12_whySit 26 = .ok (.ireturn, 1) := by decide +kernel
def r_whySit (I : Nat → Nat → Int32) (z : Nat) (v1 : Int64) : Option (Int32) := (r_isPerson I z v1).bind (fun q1 => let u3 := q1; if u3 = 0 then (some 1) else ((r_isUp I z (Int64.toInt32 v1)).bind (fun q5 => let u7 := q5; if u7 = 0 then (some 2) else (some 0))))
theorem c_r_whySit {l : Launch} {D : va_G} {E : Nat → ClassId} {B : Nat → Prop} {n : Nat} {T : Nat → Option (Nat × Nat)} {I : Nat → Nat → Int32} {J : Nat → Nat → Int64} {P : Nat → Nat → Option Nat} {z : Nat} {v1 : Int64} {r : Int32} (hs_z : isMd T P z) (hf : r_whySit I z v1 = some r) : Ct l D E B yX12_whySit cX12_whySit 3 (some .int) 2 0 0 [.ref z, .long v1] (n, T, I, J, P) (Ret (some (.int r)) (n, T, I, J, P)) := by
  unfold r_whySit at hf
  refine Ct.ofV (by decide) (Nat.le_of_ble_eq_true rfl) ?_
  refine V.aload_n dX12_whySit_0 rfl ?_
  refine V.lload_n dX12_whySit_1 rfl ?_
  obtain ⟨u3, hk2, hf⟩ := bnd_some hf
  try dsimp only at hf
  refine V.inv cv_X12_210 (c_r_isPerson hs_z hk2) dX12_whySit_2 (hs_z.1 0 (12, 0) rfl) (by decide) rfl rfl rfl (Nat.le_of_ble_eq_true rfl) (by decide) (by decide) (Nat.le_refl _) (Nat.le_refl _) (fun _ _ hq => ?_)
  obtain ⟨rfl, rfl⟩ := hq
  refine V.if_ne 12 dX12_whySit_5 (by decide) (fun c4 => ?_) (fun c4 => ?_)
  · rw [if_neg c4] at hf
    refine V.aload_n dX12_whySit_12 rfl ?_
    refine V.lload_n dX12_whySit_13 rfl ?_
    refine V.l2i dX12_whySit_14 ?_
    obtain ⟨u7, hk6, hf⟩ := bnd_some hf
    try dsimp only at hf
    refine V.inv cv_X12_218 (c_r_isUp hs_z hk6) dX12_whySit_15 (hs_z.1 0 (12, 0) rfl) (by decide) rfl rfl rfl (Nat.le_of_ble_eq_true rfl) (by decide) (by decide) (Nat.le_refl _) (Nat.le_refl _) (fun _ _ hq => ?_)
    obtain ⟨rfl, rfl⟩ := hq
    refine V.if_eq 25 dX12_whySit_18 (by decide) (fun c8 => ?_) (fun c8 => ?_)
    · rw [if_pos c8] at hf
      refine V.iconst (v := 2) dX12_whySit_25 (by decide) ?_
      obtain rfl := Option.some.inj hf
      exact V.iret dX12_whySit_26 rfl (Nat.le_refl _) (Nat.le_refl _) ⟨rfl, rfl⟩
    · rw [if_neg c8] at hf
      refine V.iconst (v := 0) dX12_whySit_21 (by decide) ?_
      refine V.goto 26 dX12_whySit_22 (by decide) ?_
      obtain rfl := Option.some.inj hf
      exact V.iret dX12_whySit_26 rfl (Nat.le_refl _) (Nat.le_refl _) ⟨rfl, rfl⟩
  · rw [if_pos c4] at hf
    refine V.iconst (v := 1) dX12_whySit_8 (by decide) ?_
    refine V.goto 26 dX12_whySit_9 (by decide) ?_
    obtain rfl := Option.some.inj hf
    exact V.iret dX12_whySit_26 rfl (Nat.le_refl _) (Nat.le_refl _) ⟨rfl, rfl⟩
theorem dX12_whyWine_0 : decode cX12_whyWine 0 = .ok (.aload_n 0, 1) := by decide +kernel
theorem dX12_whyWine_1 : decode cX12_whyWine 1 = .ok (.lload_n 1, 1) := by decide +kernel
theorem dX12_whyWine_2 : decode cX12_whyWine 2 = .ok (.invokevirtual 210, 3) := by decide +kernel
theorem dX12_whyWine_5 : decode cX12_whyWine 5 = .ok (.ifCond .eq 14, 3) := by decide +kernel
theorem dX12_whyWine_8 : decode cX12_whyWine 8 = .ok (.lload_n 3, 1) := by decide +kernel
theorem dX12_whyWine_9 : decode cX12_whyWine 9 = .ok (.lconst 1, 1) := by decide +kernel
theorem dX12_whyWine_10 : decode cX12_whyWine 10 = .ok (.ldc2_w 262, 3) := by decide +kernel
theorem dX12_whyWine_13 : decode cX12_whyWine 13 = .ok (.invokestatic 145, 3) := by decide +kernel
theorem dX12_whyWine_16 : decode cX12_whyWine 16 = .ok (.ifCond .ne 7, 3) := by decide +kernel
theorem dX12_whyWine_19 : decode cX12_whyWine 19 = .ok (.iconst 1, 1) := by decide +kernel
theorem dX12_whyWine_20 : decode cX12_whyWine 20 = .ok (.goto 17, 3) := by decide +kernel
theorem dX12_whyWine_23 : decode cX12_whyWine 23 = .ok (.aload_n 0, 1) := by decide +kernel
theorem dX12_whyWine_24 : decode cX12_whyWine 24 = .ok (.lload_n 1, 1) := by decide +kernel
theorem dX12_whyWine_25 : decode cX12_whyWine 25 = .ok (.l2i, 1) := by decide +kernel
theorem dX12_whyWine_26 : decode cX12_whyWine 26 = .ok (.invokevirtual 218, 3) := by decide +kernel
theorem dX12_whyWine_29 : decode cX12_whyWine 29 = .ok (.ifCond .eq 7, 3) := by decide +kernel
theorem dX12_whyWine_32 : decode cX12_whyWine 32 = .ok (.iconst 0, 1) := by decide +kernel
theorem dX12_whyWine_33 : decode cX12_whyWine 33 = .ok (.goto 4, 3) := by decide +kernel
theorem dX12_whyWine_36 : decode cX12_whyWine 36 = .ok (.iconst 2, 1) := by decide +kernel
theorem dX12_whyWine_37 : decode cX12_whyWine 37 = .ok (.ireturn, 1) := by decide +kernel
def r_whyWine (I : Nat → Nat → Int32) (z : Nat) (v1 : Int64) (v3 : Int64) : Option (Int32) := (r_isPerson I z v1).bind (fun q1 => let u3 := q1; if u3 = 0 then (some 1) else (if (r_within v3 1 9) = 0 then (some 1) else ((r_isUp I z (Int64.toInt32 v1)).bind (fun q6 => let u8 := q6; if u8 = 0 then (some 2) else (some 0)))))
theorem c_r_whyWine {l : Launch} {D : va_G} {E : Nat → ClassId} {B : Nat → Prop} {n : Nat} {T : Nat → Option (Nat × Nat)} {I : Nat → Nat → Int32} {J : Nat → Nat → Int64} {P : Nat → Nat → Option Nat} {z : Nat} {v1 : Int64} {v3 : Int64} {r : Int32} (hs_z : isMd T P z) (hf : r_whyWine I z v1 v3 = some r) : Ct l D E B yX12_whyWine cX12_whyWine 5 (some .int) 2 0 0 [.ref z, .long v1, .long v3] (n, T, I, J, P) (Ret (some (.int r)) (n, T, I, J, P)) := by
  unfold r_whyWine at hf
  refine Ct.ofV (by decide) (Nat.le_of_ble_eq_true rfl) ?_
  refine V.aload_n dX12_whyWine_0 rfl ?_
  refine V.lload_n dX12_whyWine_1 rfl ?_
  obtain ⟨u3, hk2, hf⟩ := bnd_some hf
  try dsimp only at hf
  refine V.inv cv_X12_210 (c_r_isPerson hs_z hk2) dX12_whyWine_2 (hs_z.1 0 (12, 0) rfl) (by decide) rfl rfl rfl (Nat.le_of_ble_eq_true rfl) (by decide) (by decide) (Nat.le_refl _) (Nat.le_refl _) (fun _ _ hq => ?_)
  obtain ⟨rfl, rfl⟩ := hq
  refine V.if_eq 19 dX12_whyWine_5 (by decide) (fun c4 => ?_) (fun c4 => ?_)
  · rw [if_pos c4] at hf
    refine V.iconst (v := 1) dX12_whyWine_19 (by decide) ?_
    refine V.goto 37 dX12_whyWine_20 (by decide) ?_
    obtain rfl := Option.some.inj hf
    exact V.iret dX12_whyWine_37 rfl (Nat.le_refl _) (Nat.le_refl _) ⟨rfl, rfl⟩
  · rw [if_neg c4] at hf
    refine V.lload_n dX12_whyWine_8 rfl ?_
    refine V.lconst (v := 1) dX12_whyWine_9 (by decide) ?_
    refine V.ldc2 dX12_whyWine_10 kc_X12_262 ?_
    refine V.ins cs_X12_145 (c_r_within) dX12_whyWine_13 rfl rfl (Nat.le_of_ble_eq_true rfl) (by decide) (by decide) (Nat.le_refl _) (Nat.le_refl _) (fun _ _ hq => ?_)
    obtain ⟨rfl, rfl⟩ := hq
    refine V.if_ne 23 dX12_whyWine_16 (by decide) (fun c5 => ?_) (fun c5 => ?_)
    · rw [if_neg c5] at hf
      refine V.aload_n dX12_whyWine_23 rfl ?_
      refine V.lload_n dX12_whyWine_24 rfl ?_
      refine V.l2i dX12_whyWine_25 ?_
      obtain ⟨u8, hk7, hf⟩ := bnd_some hf
      try dsimp only at hf
      refine V.inv cv_X12_218 (c_r_isUp hs_z hk7) dX12_whyWine_26 (hs_z.1 0 (12, 0) rfl) (by decide) rfl rfl rfl (Nat.le_of_ble_eq_true rfl) (by decide) (by decide) (Nat.le_refl _) (Nat.le_refl _) (fun _ _ hq => ?_)
      obtain ⟨rfl, rfl⟩ := hq
      refine V.if_eq 36 dX12_whyWine_29 (by decide) (fun c9 => ?_) (fun c9 => ?_)
      · rw [if_pos c9] at hf
        refine V.iconst (v := 2) dX12_whyWine_36 (by decide) ?_
        obtain rfl := Option.some.inj hf
        exact V.iret dX12_whyWine_37 rfl (Nat.le_refl _) (Nat.le_refl _) ⟨rfl, rfl⟩
      · rw [if_neg c9] at hf
        refine V.iconst (v := 0) dX12_whyWine_32 (by decide) ?_
        refine V.goto 37 dX12_whyWine_33 (by decide) ?_
        obtain rfl := Option.some.inj hf
        exact V.iret dX12_whyWine_37 rfl (Nat.le_refl _) (Nat.le_refl _) ⟨rfl, rfl⟩
    · rw [if_pos c5] at hf
      refine V.iconst (v := 1) dX12_whyWine_19 (by decide) ?_
      refine V.goto 37 dX12_whyWine_20 (by decide) ?_
      obtain rfl := Option.some.inj hf
      exact V.iret dX12_whyWine_37 rfl (Nat.le_refl _) (Nat.le_refl _) ⟨rfl, rfl⟩
theorem dX12_changes_0 : decode cX12_changes 0 = .ok (.aload_n 0, 1) := by decide +kernel
theorem dX12_changes_1 : decode cX12_changes 1 = .ok (.getfield 13, 3) := by decide +kernel
theorem dX12_changes_4 : decode cX12_changes 4 = .ok (.bipush 35, 2) := by decide +kernel
theorem dX12_changes_6 : decode cX12_changes 6 = .ok (.iload_n 1, 1) := by decide +kernel
theorem dX12_changes_7 : decode cX12_changes 7 = .ok (.iadd, 1) := by decide +kernel
theorem dX12_changes_8 : decode cX12_changes 8 = .ok (.iaload, 1) := by decide +kernel
theorem dX12_changes_9 : decode cX12_changes 9 = .ok (.istore_n 3, 1) := by decide +kernel
theorem dX12_changes_10 : decode cX12_changes 10 = .ok (.aload_n 0, 1) := by decide +kernel
theorem dX12_changes_11 : decode cX12_changes 11 = .ok (.getfield 13, 3) := by decide +kernel
theorem dX12_changes_14 : decode cX12_changes 14 = .ok (.bipush 35, 2) := by decide +kernel
theorem dX12_changes_16 : decode cX12_changes 16 = .ok (.iload_n 1, 1) := by decide +kernel
theorem dX12_changes_17 : decode cX12_changes 17 = .ok (.iadd, 1) := by decide +kernel
theorem dX12_changes_18 : decode cX12_changes 18 = .ok (.aload_n 0, 1) := by decide +kernel
theorem dX12_changes_19 : decode cX12_changes 19 = .ok (.getfield 13, 3) := by decide +kernel
theorem dX12_changes_22 : decode cX12_changes 22 = .ok (.bipush 35, 2) := by decide +kernel
theorem dX12_changes_24 : decode cX12_changes 24 = .ok (.iload_n 2, 1) := by decide +kernel
theorem dX12_changes_25 : decode cX12_changes 25 = .ok (.iadd, 1) := by decide +kernel
theorem dX12_changes_26 : decode cX12_changes 26 = .ok (.iaload, 1) := by decide +kernel
theorem dX12_changes_27 : decode cX12_changes 27 = .ok (.iastore, 1) := by decide +kernel
theorem dX12_changes_28 : decode cX12_changes 28 = .ok (.aload_n 0, 1) := by decide +kernel
theorem dX12_changes_29 : decode cX12_changes 29 = .ok (.getfield 13, 3) := by decide +kernel
theorem dX12_changes_32 : decode cX12_changes 32 = .ok (.bipush 35, 2) := by decide +kernel
theorem dX12_changes_34 : decode cX12_changes 34 = .ok (.iload_n 2, 1) := by decide +kernel
theorem dX12_changes_35 : decode cX12_changes 35 = .ok (.iadd, 1) := by decide +kernel
theorem dX12_changes_36 : decode cX12_changes 36 = .ok (.iload_n 3, 1) := by decide +kernel
theorem dX12_changes_37 : decode cX12_changes 37 = .ok (.iastore, 1) := by decide +kernel
theorem dX12_changes_38 : decode cX12_changes 38 = .ok (.return_, 1) := by decide +kernel
def r_changes (I : Nat → Nat → Int32) (z : Nat) (v1 : Int32) (v2 : Int32) : Option ((Nat → Nat → Int32)) := chk (35 + v1) 3891 (let x2 := (I (z + 1) (Int32.toNatClampNeg (35 + v1))); chk (35 + v2) 3891 (let I5 := uI I (z + 1) (Int32.toNatClampNeg (35 + v1)) (I (z + 1) (Int32.toNatClampNeg (35 + v2))); let I7 := uI I5 (z + 1) (Int32.toNatClampNeg (35 + v2)) x2; some I7))
theorem c_r_changes {l : Launch} {D : va_G} {E : Nat → ClassId} {B : Nat → Prop} {n : Nat} {T : Nat → Option (Nat × Nat)} {I : Nat → Nat → Int32} {J : Nat → Nat → Int64} {P : Nat → Nat → Option Nat} {z : Nat} {v1 : Int32} {v2 : Int32} {r : (Nat → Nat → Int32)} (hs_z : isMd T P z) (hf : r_changes I z v1 v2 = some r) : Ct l D E B yX12_changes cX12_changes 4 none 0 0 0 [.ref z, .int v1, .int v2] (n, T, I, J, P) (Ret (none) (n, T, r, J, P)) := by
  unfold r_changes at hf
  refine Ct.ofV (by decide) (Nat.le_of_ble_eq_true rfl) ?_
  refine V.aload_n dX12_changes_0 rfl ?_
  refine V.getr fl_X12_13 dX12_changes_1 (hs_z.1 0 (12, 0) rfl) (hs_z.2 0 1 1 rfl) (by decide) rfl ?_
  refine V.bipush (v := 35) dX12_changes_4 (by decide) ?_
  refine V.iload_n dX12_changes_6 rfl ?_
  refine V.iadd dX12_changes_7 ?_
  obtain ⟨hb1, hf⟩ := chk_some hf
  refine V.iald dX12_changes_8 (hs_z.1 1 (20, 3891) rfl) hb1 ?_
  refine V.istore_n dX12_changes_9 rfl (by decide) (by first | exact rfl | exact trivial) ?_
  obtain ⟨x2, e3⟩ : ∃ zz_, zz_ = (I (z + 1) (Int32.toNatClampNeg (35 + v1))) := ⟨_, rfl⟩
  rw [← e3] at hf ⊢
  try dsimp only at hf
  refine V.aload_n dX12_changes_10 rfl ?_
  refine V.getr fl_X12_13 dX12_changes_11 (hs_z.1 0 (12, 0) rfl) (hs_z.2 0 1 1 rfl) (by decide) rfl ?_
  refine V.bipush (v := 35) dX12_changes_14 (by decide) ?_
  refine V.iload_n dX12_changes_16 rfl ?_
  refine V.iadd dX12_changes_17 ?_
  refine V.aload_n dX12_changes_18 rfl ?_
  refine V.getr fl_X12_13 dX12_changes_19 (hs_z.1 0 (12, 0) rfl) (hs_z.2 0 1 1 rfl) (by decide) rfl ?_
  refine V.bipush (v := 35) dX12_changes_22 (by decide) ?_
  refine V.iload_n dX12_changes_24 rfl ?_
  refine V.iadd dX12_changes_25 ?_
  obtain ⟨hb4, hf⟩ := chk_some hf
  refine V.iald dX12_changes_26 (hs_z.1 1 (20, 3891) rfl) hb4 ?_
  refine V.iastE dX12_changes_27 (hs_z.1 1 (20, 3891) rfl) hb1 (fun I5 e6 => ?_)
  rw [← e6] at hf
  try dsimp only at hf
  clear e6
  refine V.aload_n dX12_changes_28 rfl ?_
  refine V.getr fl_X12_13 dX12_changes_29 (hs_z.1 0 (12, 0) rfl) (hs_z.2 0 1 1 rfl) (by decide) rfl ?_
  refine V.bipush (v := 35) dX12_changes_32 (by decide) ?_
  refine V.iload_n dX12_changes_34 rfl ?_
  refine V.iadd dX12_changes_35 ?_
  refine V.iload_n dX12_changes_36 rfl ?_
  refine V.iastE dX12_changes_37 (hs_z.1 1 (20, 3891) rfl) hb4 (fun I7 e8 => ?_)
  rw [← e8] at hf
  try dsimp only at hf
  clear e8
  obtain rfl := Option.some.inj hf
  exact V.vret dX12_changes_38 rfl (Nat.le_refl _) (Nat.le_refl _) ⟨rfl, rfl⟩
theorem dX12_drinks_0 : decode cX12_drinks 0 = .ok (.aload_n 0, 1) := by decide +kernel
theorem dX12_drinks_1 : decode cX12_drinks 1 = .ok (.getfield 13, 3) := by decide +kernel
theorem dX12_drinks_4 : decode cX12_drinks 4 = .ok (.bipush 41, 2) := by decide +kernel
theorem dX12_drinks_6 : decode cX12_drinks 6 = .ok (.iload_n 1, 1) := by decide +kernel
theorem dX12_drinks_7 : decode cX12_drinks 7 = .ok (.iadd, 1) := by decide +kernel
theorem dX12_drinks_8 : decode cX12_drinks 8 = .ok (.dup2, 1) := by decide +kernel
theorem dX12_drinks_9 : decode cX12_drinks 9 = .ok (.iaload, 1) := by decide +kernel
theorem dX12_drinks_10 : decode cX12_drinks 10 = .ok (.iload_n 2, 1) := by decide +kernel
theorem dX12_drinks_11 : decode cX12_drinks 11 = .ok (.iadd, 1) := by decide +kernel
theorem dX12_drinks_12 : decode cX12_drinks 12 = .ok (.iastore, 1) := by decide +kernel
theorem dX12_drinks_13 : decode cX12_drinks 13 = .ok (.aload_n 0, 1) := by decide +kernel
theorem dX12_drinks_14 : decode cX12_drinks 14 = .ok (.getfield 13, 3) := by decide +kernel
theorem dX12_drinks_17 : decode cX12_drinks 17 = .ok (.bipush 41, 2) := by decide +kernel
theorem dX12_drinks_19 : decode cX12_drinks 19 = .ok (.iload_n 1, 1) := by decide +kernel
theorem dX12_drinks_20 : decode cX12_drinks 20 = .ok (.iadd, 1) := by decide +kernel
theorem dX12_drinks_21 : decode cX12_drinks 21 = .ok (.iaload, 1) := by decide +kernel
theorem dX12_drinks_22 : decode cX12_drinks 22 = .ok (.bipush 99, 2) := by decide +kernel
theorem dX12_drinks_24 : decode cX12_drinks 24 = .ok (.if_icmp .le 14, 3) := by decide +kernel
theorem dX12_drinks_27 : decode cX12_drinks 27 = .ok (.aload_n 0, 1) := by decide +kernel
theorem dX12_drinks_28 : decode cX12_drinks 28 = .ok (.getfield 13, 3) := by decide +kernel
theorem dX12_drinks_31 : decode cX12_drinks 31 = .ok (.bipush 41, 2) := by decide +kernel
theorem dX12_drinks_33 : decode cX12_drinks 33 = .ok (.iload_n 1, 1) := by decide +kernel
theorem dX12_drinks_34 : decode cX12_drinks 34 = .ok (.iadd, 1) := by decide +kernel
theorem dX12_drinks_35 : decode cX12_drinks 35 = .ok (.bipush 99, 2) := by decide +kernel
theorem dX12_drinks_37 : decode cX12_drinks 37 = .ok (.iastore, 1) := by decide +kernel
theorem dX12_drinks_38 : decode cX12_drinks 38 = .ok (.return_, 1) := by decide +kernel
def r_drinks (I : Nat → Nat → Int32) (z : Nat) (v1 : Int32) (v2 : Int32) : Option ((Nat → Nat → Int32)) := chk (41 + v1) 3891 (let I2 := uI I (z + 1) (Int32.toNatClampNeg (41 + v1)) ((I (z + 1) (Int32.toNatClampNeg (41 + v1))) + v2); if (I2 (z + 1) (Int32.toNatClampNeg (41 + v1))) ≤ 99 then (some I2) else (let I5 := uI I2 (z + 1) (Int32.toNatClampNeg (41 + v1)) 99; some I5))
theorem c_r_drinks {l : Launch} {D : va_G} {E : Nat → ClassId} {B : Nat → Prop} {n : Nat} {T : Nat → Option (Nat × Nat)} {I : Nat → Nat → Int32} {J : Nat → Nat → Int64} {P : Nat → Nat → Option Nat} {z : Nat} {v1 : Int32} {v2 : Int32} {r : (Nat → Nat → Int32)} (hs_z : isMd T P z) (hf : r_drinks I z v1 v2 = some r) : Ct l D E B yX12_drinks cX12_drinks 3 none 0 0 0 [.ref z, .int v1, .int v2] (n, T, I, J, P) (Ret (none) (n, T, r, J, P)) := by
  unfold r_drinks at hf
  refine Ct.ofV (by decide) (Nat.le_of_ble_eq_true rfl) ?_
  refine V.aload_n dX12_drinks_0 rfl ?_
  refine V.getr fl_X12_13 dX12_drinks_1 (hs_z.1 0 (12, 0) rfl) (hs_z.2 0 1 1 rfl) (by decide) rfl ?_
  refine V.bipush (v := 41) dX12_drinks_4 (by decide) ?_
  refine V.iload_n dX12_drinks_6 rfl ?_
  refine V.iadd dX12_drinks_7 ?_
  refine V.dup2 dX12_drinks_8 rfl rfl ?_
  obtain ⟨hb1, hf⟩ := chk_some hf
  refine V.iald dX12_drinks_9 (hs_z.1 1 (20, 3891) rfl) hb1 ?_
  refine V.iload_n dX12_drinks_10 rfl ?_
  refine V.iadd dX12_drinks_11 ?_
  refine V.iastE dX12_drinks_12 (hs_z.1 1 (20, 3891) rfl) hb1 (fun I2 e3 => ?_)
  rw [← e3] at hf
  try dsimp only at hf
  clear e3
  refine V.aload_n dX12_drinks_13 rfl ?_
  refine V.getr fl_X12_13 dX12_drinks_14 (hs_z.1 0 (12, 0) rfl) (hs_z.2 0 1 1 rfl) (by decide) rfl ?_
  refine V.bipush (v := 41) dX12_drinks_17 (by decide) ?_
  refine V.iload_n dX12_drinks_19 rfl ?_
  refine V.iadd dX12_drinks_20 ?_
  refine V.iald dX12_drinks_21 (hs_z.1 1 (20, 3891) rfl) hb1 ?_
  refine V.bipush (v := 99) dX12_drinks_22 (by decide) ?_
  refine V.icmp_le 38 dX12_drinks_24 (by decide) (fun c4 => ?_) (fun c4 => ?_)
  · rw [if_pos c4] at hf
    obtain rfl := Option.some.inj hf
    exact V.vret dX12_drinks_38 rfl (Nat.le_refl _) (Nat.le_refl _) ⟨rfl, rfl⟩
  · rw [if_neg c4] at hf
    refine V.aload_n dX12_drinks_27 rfl ?_
    refine V.getr fl_X12_13 dX12_drinks_28 (hs_z.1 0 (12, 0) rfl) (hs_z.2 0 1 1 rfl) (by decide) rfl ?_
    refine V.bipush (v := 41) dX12_drinks_31 (by decide) ?_
    refine V.iload_n dX12_drinks_33 rfl ?_
    refine V.iadd dX12_drinks_34 ?_
    refine V.bipush (v := 99) dX12_drinks_35 (by decide) ?_
    refine V.iastE dX12_drinks_37 (hs_z.1 1 (20, 3891) rfl) hb1 (fun I5 e6 => ?_)
    rw [← e6] at hf
    try dsimp only at hf
    clear e6
    obtain rfl := Option.some.inj hf
    exact V.vret dX12_drinks_38 rfl (Nat.le_refl _) (Nat.le_refl _) ⟨rfl, rfl⟩
theorem dX12_play_0 : decode cX12_play 0 = .ok (.aload_n 0, 1) := by decide +kernel
theorem dX12_play_1 : decode cX12_play 1 = .ok (.iconst 0, 1) := by decide +kernel
theorem dX12_play_2 : decode cX12_play 2 = .ok (.putfield 1, 3) := by decide +kernel
theorem dX12_play_5 : decode cX12_play 5 = .ok (.aload_n 0, 1) := by decide +kernel
theorem dX12_play_6 : decode cX12_play 6 = .ok (.iload_n 1, 1) := by decide +kernel
theorem dX12_play_7 : decode cX12_play 7 = .ok (.i2l, 1) := by decide +kernel
theorem dX12_play_8 : decode cX12_play 8 = .ok (.invokevirtual 248, 3) := by decide +kernel
theorem dX12_play_11 : decode cX12_play 11 = .ok (.ifCond .ne 6, 3) := by decide +kernel
theorem dX12_play_14 : decode cX12_play 14 = .ok (.bipush (-11), 2) := by decide +kernel
theorem dX12_play_16 : decode cX12_play 16 = .ok (.ireturn, 1) := by decide +kernel
theorem dX12_play_17 : decode cX12_play 17 = .ok (.aload_n 0, 1) := by decide +kernel
theorem dX12_play_18 : decode cX12_play 18 = .ok (.invokevirtual 264, 3) := by decide +kernel
theorem dX12_play_21 : decode cX12_play 21 = .ok (.aload_n 0, 1) := by decide +kernel
theorem dX12_play_22 : decode cX12_play 22 = .ok (.iload_n 1, 1) := by decide +kernel
theorem dX12_play_23 : decode cX12_play 23 = .ok (.invokevirtual 267, 3) := by decide +kernel
theorem dX12_play_26 : decode cX12_play 26 = .ok (.istore_n 2, 1) := by decide +kernel
theorem dX12_play_27 : decode cX12_play 27 = .ok (.aload_n 0, 1) := by decide +kernel
theorem dX12_play_28 : decode cX12_play 28 = .ok (.invokevirtual 270, 3) := by decide +kernel
theorem dX12_play_31 : decode cX12_play 31 = .ok (.iload_n 2, 1) := by decide +kernel
theorem dX12_play_32 : decode cX12_play 32 = .ok (.ireturn, 1) := by decide +kernel
def r_play (F : Nat) (I : Nat → Nat → Int32) (z : Nat) (v1 : Int32) : Option (Int32 × (Nat → Nat → Int32)) := let I1 := uI I z 0 0; (r_isTune I1 z (Int32.toInt64 v1)).bind (fun q3 => let u5 := q3; if u5 = 0 then (some ((-11), I1)) else ((r_keeps F I1 z).bind (fun q7 => let I9 := q7; (r_plays F I9 z v1).bind (fun q10 => let u12 := q10.1; let I13 := q10.2; (r_notes F I13 z).bind (fun q14 => let I16 := q14; some (u12, I16))))))
theorem c_r_play {l : Launch} {D : va_G} {E : Nat → ClassId} {B : Nat → Prop} {n F : Nat} {T : Nat → Option (Nat × Nat)} {I : Nat → Nat → Int32} {J : Nat → Nat → Int64} {P : Nat → Nat → Option Nat} {z : Nat} {v1 : Int32} {r : Int32 × (Nat → Nat → Int32)} (hs_z : isMd T P z) (hf : r_play F I z v1 = some r) : Ct l D E B yX12_play cX12_play 3 (some .int) 6 0 0 [.ref z, .int v1] (n, T, I, J, P) (Ret (some (.int r.1)) (n, T, r.2, J, P)) := by
  unfold r_play at hf
  refine Ct.ofV (by decide) (Nat.le_of_ble_eq_true rfl) ?_
  refine V.aload_n dX12_play_0 rfl ?_
  refine V.iconst (v := 0) dX12_play_1 (by decide) ?_
  refine V.putiE fl_X12_1 dX12_play_2 (hs_z.1 0 (12, 0) rfl) (by decide) (fun h => by cases h) rfl rfl rfl (Nat.le_of_ble_eq_true rfl) (fun I1 e2 => ?_)
  rw [← e2] at hf
  try dsimp only at hf
  clear e2
  refine V.aload_n dX12_play_5 rfl ?_
  refine V.iload_n dX12_play_6 rfl ?_
  refine V.i2l dX12_play_7 ?_
  obtain ⟨u5, hk4, hf⟩ := bnd_some hf
  try dsimp only at hf
  refine V.inv cv_X12_248 (c_r_isTune hs_z hk4) dX12_play_8 (hs_z.1 0 (12, 0) rfl) (by decide) rfl rfl rfl (Nat.le_of_ble_eq_true rfl) (by decide) (by decide) (Nat.le_refl _) (Nat.le_refl _) (fun _ _ hq => ?_)
  obtain ⟨rfl, rfl⟩ := hq
  refine V.if_ne 17 dX12_play_11 (by decide) (fun c6 => ?_) (fun c6 => ?_)
  · rw [if_neg c6] at hf
    refine V.aload_n dX12_play_17 rfl ?_
    obtain ⟨I9, hk8, hf⟩ := bnd_some hf
    try dsimp only at hf
    refine V.inv cv_X12_264 (c_r_keeps hs_z hk8) dX12_play_18 (hs_z.1 0 (12, 0) rfl) (by decide) rfl rfl rfl (Nat.le_of_ble_eq_true rfl) (by decide) (by decide) (Nat.le_refl _) (Nat.le_refl _) (fun _ _ hq => ?_)
    obtain ⟨rfl, rfl⟩ := hq
    refine V.aload_n dX12_play_21 rfl ?_
    refine V.iload_n dX12_play_22 rfl ?_
    obtain ⟨⟨u12, I13⟩, hk11, hf⟩ := bnd_some hf
    try dsimp only at hf
    refine V.inv cv_X12_267 (c_r_plays hs_z hk11) dX12_play_23 (hs_z.1 0 (12, 0) rfl) (by decide) rfl rfl rfl (Nat.le_of_ble_eq_true rfl) (by decide) (by decide) (Nat.le_refl _) (Nat.le_refl _) (fun _ _ hq => ?_)
    obtain ⟨rfl, rfl⟩ := hq
    try dsimp only
    refine V.istore_n dX12_play_26 rfl (by decide) (by first | exact rfl | exact trivial) ?_
    refine V.aload_n dX12_play_27 rfl ?_
    obtain ⟨I16, hk15, hf⟩ := bnd_some hf
    try dsimp only at hf
    refine V.inv cv_X12_270 (c_r_notes hs_z hk15) dX12_play_28 (hs_z.1 0 (12, 0) rfl) (by decide) rfl rfl rfl (Nat.le_of_ble_eq_true rfl) (by decide) (by decide) (Nat.le_refl _) (Nat.le_refl _) (fun _ _ hq => ?_)
    obtain ⟨rfl, rfl⟩ := hq
    refine V.iload_n dX12_play_31 rfl ?_
    obtain rfl := Option.some.inj hf
    exact V.iret dX12_play_32 rfl (Nat.le_refl _) (Nat.le_refl _) ⟨rfl, rfl⟩
  · rw [if_pos c6] at hf
    refine V.bipush (v := -11) dX12_play_14 (by decide) ?_
    obtain rfl := Option.some.inj hf
    exact V.iret dX12_play_16 rfl (Nat.le_refl _) (Nat.le_refl _) ⟨rfl, rfl⟩
theorem dX12_sit_0 : decode cX12_sit 0 = .ok (.aload_n 0, 1) := by decide +kernel
theorem dX12_sit_1 : decode cX12_sit 1 = .ok (.iconst 0, 1) := by decide +kernel
theorem dX12_sit_2 : decode cX12_sit 2 = .ok (.putfield 1, 3) := by decide +kernel
theorem dX12_sit_5 : decode cX12_sit 5 = .ok (.aload_n 0, 1) := by decide +kernel
theorem dX12_sit_6 : decode cX12_sit 6 = .ok (.iload_n 1, 1) := by decide +kernel
theorem dX12_sit_7 : decode cX12_sit 7 = .ok (.i2l, 1) := by decide +kernel
theorem dX12_sit_8 : decode cX12_sit 8 = .ok (.invokevirtual 273, 3) := by decide +kernel
theorem dX12_sit_11 : decode cX12_sit 11 = .ok (.istore_n 2, 1) := by decide +kernel
theorem dX12_sit_12 : decode cX12_sit 12 = .ok (.iload_n 2, 1) := by decide +kernel
theorem dX12_sit_13 : decode cX12_sit 13 = .ok (.ifCond .eq 8, 3) := by decide +kernel
theorem dX12_sit_16 : decode cX12_sit 16 = .ok (.bipush (-10), 2) := by decide +kernel
theorem dX12_sit_18 : decode cX12_sit 18 = .ok (.iload_n 2, 1) := by decide +kernel
theorem dX12_sit_19 : decode cX12_sit 19 = .ok (.isub, 1) := by decide +kernel
theorem dX12_sit_20 : decode cX12_sit 20 = .ok (.ireturn, 1) := by decide +kernel
theorem dX12_sit_21 : decode cX12_sit 21 = .ok (.aload_n 0, 1) := by decide +kernel
theorem dX12_sit_22 : decode cX12_sit 22 = .ok (.invokevirtual 264, 3) := by decide +kernel
theorem dX12_sit_25 : decode cX12_sit 25 = .ok (.aload_n 0, 1) := by decide +kernel
theorem dX12_sit_26 : decode cX12_sit 26 = .ok (.iload_n 1, 1) := by decide +kernel
theorem dX12_sit_27 : decode cX12_sit 27 = .ok (.invokevirtual 277, 3) := by decide +kernel
theorem dX12_sit_30 : decode cX12_sit 30 = .ok (.aload_n 0, 1) := by decide +kernel
theorem dX12_sit_31 : decode cX12_sit 31 = .ok (.invokevirtual 270, 3) := by decide +kernel
theorem dX12_sit_34 : decode cX12_sit 34 = .ok (.aload_n 0, 1) := by decide +kernel
theorem dX12_sit_35 : decode cX12_sit 35 = .ok (.iload_n 1, 1) := by decide +kernel
theorem dX12_sit_36 : decode cX12_sit 36 = .ok (.invokevirtual 244, 3) := by decide +kernel
theorem dX12_sit_39 : decode cX12_sit 39 = .ok (.ireturn, 1) := by decide +kernel
def r_sit (F : Nat) (I : Nat → Nat → Int32) (z : Nat) (v1 : Int32) : Option (Int32 × (Nat → Nat → Int32)) := let I1 := uI I z 0 0; (r_whySit I1 z (Int32.toInt64 v1)).bind (fun q3 => let u5 := q3; if u5 = 0 then ((r_keeps F I1 z).bind (fun q7 => let I9 := q7; (r_sitsOwn I9 z v1).bind (fun q10 => let I12 := q10; (r_notes F I12 z).bind (fun q13 => let I15 := q13; (r_placeOf F I15 z v1).bind (fun q16 => let u18 := q16; some (u18, I15)))))) else (some (((-10) - u5), I1)))
theorem c_r_sit {l : Launch} {D : va_G} {E : Nat → ClassId} {B : Nat → Prop} {n F : Nat} {T : Nat → Option (Nat × Nat)} {I : Nat → Nat → Int32} {J : Nat → Nat → Int64} {P : Nat → Nat → Option Nat} {z : Nat} {v1 : Int32} {r : Int32 × (Nat → Nat → Int32)} (hs_z : isMd T P z) (hf : r_sit F I z v1 = some r) : Ct l D E B yX12_sit cX12_sit 3 (some .int) 4 0 0 [.ref z, .int v1] (n, T, I, J, P) (Ret (some (.int r.1)) (n, T, r.2, J, P)) := by
  unfold r_sit at hf
  refine Ct.ofV (by decide) (Nat.le_of_ble_eq_true rfl) ?_
  refine V.aload_n dX12_sit_0 rfl ?_
  refine V.iconst (v := 0) dX12_sit_1 (by decide) ?_
  refine V.putiE fl_X12_1 dX12_sit_2 (hs_z.1 0 (12, 0) rfl) (by decide) (fun h => by cases h) rfl rfl rfl (Nat.le_of_ble_eq_true rfl) (fun I1 e2 => ?_)
  rw [← e2] at hf
  try dsimp only at hf
  clear e2
  refine V.aload_n dX12_sit_5 rfl ?_
  refine V.iload_n dX12_sit_6 rfl ?_
  refine V.i2l dX12_sit_7 ?_
  obtain ⟨u5, hk4, hf⟩ := bnd_some hf
  try dsimp only at hf
  refine V.inv cv_X12_273 (c_r_whySit hs_z hk4) dX12_sit_8 (hs_z.1 0 (12, 0) rfl) (by decide) rfl rfl rfl (Nat.le_of_ble_eq_true rfl) (by decide) (by decide) (Nat.le_refl _) (Nat.le_refl _) (fun _ _ hq => ?_)
  obtain ⟨rfl, rfl⟩ := hq
  refine V.istore_n dX12_sit_11 rfl (by decide) (by first | exact rfl | exact trivial) ?_
  refine V.iload_n dX12_sit_12 rfl ?_
  refine V.if_eq 21 dX12_sit_13 (by decide) (fun c6 => ?_) (fun c6 => ?_)
  · rw [if_pos c6] at hf
    refine V.aload_n dX12_sit_21 rfl ?_
    obtain ⟨I9, hk8, hf⟩ := bnd_some hf
    try dsimp only at hf
    refine V.inv cv_X12_264 (c_r_keeps hs_z hk8) dX12_sit_22 (hs_z.1 0 (12, 0) rfl) (by decide) rfl rfl rfl (Nat.le_of_ble_eq_true rfl) (by decide) (by decide) (Nat.le_refl _) (Nat.le_refl _) (fun _ _ hq => ?_)
    obtain ⟨rfl, rfl⟩ := hq
    refine V.aload_n dX12_sit_25 rfl ?_
    refine V.iload_n dX12_sit_26 rfl ?_
    obtain ⟨I12, hk11, hf⟩ := bnd_some hf
    try dsimp only at hf
    refine V.inv cv_X12_277 (c_r_sitsOwn hs_z hk11) dX12_sit_27 (hs_z.1 0 (12, 0) rfl) (by decide) rfl rfl rfl (Nat.le_of_ble_eq_true rfl) (by decide) (by decide) (Nat.le_refl _) (Nat.le_refl _) (fun _ _ hq => ?_)
    obtain ⟨rfl, rfl⟩ := hq
    refine V.aload_n dX12_sit_30 rfl ?_
    obtain ⟨I15, hk14, hf⟩ := bnd_some hf
    try dsimp only at hf
    refine V.inv cv_X12_270 (c_r_notes hs_z hk14) dX12_sit_31 (hs_z.1 0 (12, 0) rfl) (by decide) rfl rfl rfl (Nat.le_of_ble_eq_true rfl) (by decide) (by decide) (Nat.le_refl _) (Nat.le_refl _) (fun _ _ hq => ?_)
    obtain ⟨rfl, rfl⟩ := hq
    refine V.aload_n dX12_sit_34 rfl ?_
    refine V.iload_n dX12_sit_35 rfl ?_
    obtain ⟨u18, hk17, hf⟩ := bnd_some hf
    try dsimp only at hf
    refine V.inv cv_X12_244 (c_r_placeOf hs_z hk17) dX12_sit_36 (hs_z.1 0 (12, 0) rfl) (by decide) rfl rfl rfl (Nat.le_of_ble_eq_true rfl) (by decide) (by decide) (Nat.le_refl _) (Nat.le_refl _) (fun _ _ hq => ?_)
    obtain ⟨rfl, rfl⟩ := hq
    obtain rfl := Option.some.inj hf
    exact V.iret dX12_sit_39 rfl (Nat.le_refl _) (Nat.le_refl _) ⟨rfl, rfl⟩
  · rw [if_neg c6] at hf
    refine V.bipush (v := -10) dX12_sit_16 (by decide) ?_
    refine V.iload_n dX12_sit_18 rfl ?_
    refine V.isub dX12_sit_19 ?_
    obtain rfl := Option.some.inj hf
    exact V.iret dX12_sit_20 rfl (Nat.le_refl _) (Nat.le_refl _) ⟨rfl, rfl⟩
theorem dX12_change_0 : decode cX12_change 0 = .ok (.aload_n 0, 1) := by decide +kernel
theorem dX12_change_1 : decode cX12_change 1 = .ok (.iconst 0, 1) := by decide +kernel
theorem dX12_change_2 : decode cX12_change 2 = .ok (.putfield 1, 3) := by decide +kernel
theorem dX12_change_5 : decode cX12_change 5 = .ok (.aload_n 0, 1) := by decide +kernel
theorem dX12_change_6 : decode cX12_change 6 = .ok (.iload_n 1, 1) := by decide +kernel
theorem dX12_change_7 : decode cX12_change 7 = .ok (.i2l, 1) := by decide +kernel
theorem dX12_change_8 : decode cX12_change 8 = .ok (.iload_n 2, 1) := by decide +kernel
theorem dX12_change_9 : decode cX12_change 9 = .ok (.i2l, 1) := by decide +kernel
theorem dX12_change_10 : decode cX12_change 10 = .ok (.invokevirtual 280, 3) := by decide +kernel
theorem dX12_change_13 : decode cX12_change 13 = .ok (.ifCond .ne 6, 3) := by decide +kernel
theorem dX12_change_16 : decode cX12_change 16 = .ok (.bipush (-11), 2) := by decide +kernel
theorem dX12_change_18 : decode cX12_change 18 = .ok (.ireturn, 1) := by decide +kernel
theorem dX12_change_19 : decode cX12_change 19 = .ok (.aload_n 0, 1) := by decide +kernel
theorem dX12_change_20 : decode cX12_change 20 = .ok (.invokevirtual 264, 3) := by decide +kernel
theorem dX12_change_23 : decode cX12_change 23 = .ok (.aload_n 0, 1) := by decide +kernel
theorem dX12_change_24 : decode cX12_change 24 = .ok (.iload_n 1, 1) := by decide +kernel
theorem dX12_change_25 : decode cX12_change 25 = .ok (.iload_n 2, 1) := by decide +kernel
theorem dX12_change_26 : decode cX12_change 26 = .ok (.invokevirtual 284, 3) := by decide +kernel
theorem dX12_change_29 : decode cX12_change 29 = .ok (.aload_n 0, 1) := by decide +kernel
theorem dX12_change_30 : decode cX12_change 30 = .ok (.invokevirtual 270, 3) := by decide +kernel
theorem dX12_change_33 : decode cX12_change 33 = .ok (.aload_n 0, 1) := by decide +kernel
theorem dX12_change_34 : decode cX12_change 34 = .ok (.getfield 13, 3) := by decide +kernel
theorem dX12_change_37 : decode cX12_change 37 = .ok (.bipush 35, 2) := by decide +kernel
theorem dX12_change_39 : decode cX12_change 39 = .ok (.iload_n 1, 1) := by decide +kernel
theorem dX12_change_40 : decode cX12_change 40 = .ok (.iadd, 1) := by decide +kernel
theorem dX12_change_41 : decode cX12_change 41 = .ok (.iaload, 1) := by decide +kernel
theorem dX12_change_42 : decode cX12_change 42 = .ok (.ireturn, 1) := by decide +kernel
def r_change (F : Nat) (I : Nat → Nat → Int32) (z : Nat) (v1 : Int32) (v2 : Int32) : Option (Int32 × (Nat → Nat → Int32)) := let I1 := uI I z 0 0; (r_areTwo I1 z (Int32.toInt64 v1) (Int32.toInt64 v2)).bind (fun q3 => let u5 := q3; if u5 = 0 then (some ((-11), I1)) else ((r_keeps F I1 z).bind (fun q7 => let I9 := q7; (r_changes I9 z v1 v2).bind (fun q10 => let I12 := q10; (r_notes F I12 z).bind (fun q13 => let I15 := q13; chk (35 + v1) 3891 (some ((I15 (z + 1) (Int32.toNatClampNeg (35 + v1))), I15)))))))
theorem c_r_change {l : Launch} {D : va_G} {E : Nat → ClassId} {B : Nat → Prop} {n F : Nat} {T : Nat → Option (Nat × Nat)} {I : Nat → Nat → Int32} {J : Nat → Nat → Int64} {P : Nat → Nat → Option Nat} {z : Nat} {v1 : Int32} {v2 : Int32} {r : Int32 × (Nat → Nat → Int32)} (hs_z : isMd T P z) (hf : r_change F I z v1 v2 = some r) : Ct l D E B yX12_change cX12_change 3 (some .int) 3 0 0 [.ref z, .int v1, .int v2] (n, T, I, J, P) (Ret (some (.int r.1)) (n, T, r.2, J, P)) := by
  unfold r_change at hf
  refine Ct.ofV (by decide) (Nat.le_of_ble_eq_true rfl) ?_
  refine V.aload_n dX12_change_0 rfl ?_
  refine V.iconst (v := 0) dX12_change_1 (by decide) ?_
  refine V.putiE fl_X12_1 dX12_change_2 (hs_z.1 0 (12, 0) rfl) (by decide) (fun h => by cases h) rfl rfl rfl (Nat.le_of_ble_eq_true rfl) (fun I1 e2 => ?_)
  rw [← e2] at hf
  try dsimp only at hf
  clear e2
  refine V.aload_n dX12_change_5 rfl ?_
  refine V.iload_n dX12_change_6 rfl ?_
  refine V.i2l dX12_change_7 ?_
  refine V.iload_n dX12_change_8 rfl ?_
  refine V.i2l dX12_change_9 ?_
  obtain ⟨u5, hk4, hf⟩ := bnd_some hf
  try dsimp only at hf
  refine V.inv cv_X12_280 (c_r_areTwo hs_z hk4) dX12_change_10 (hs_z.1 0 (12, 0) rfl) (by decide) rfl rfl rfl (Nat.le_of_ble_eq_true rfl) (by decide) (by decide) (Nat.le_refl _) (Nat.le_refl _) (fun _ _ hq => ?_)
  obtain ⟨rfl, rfl⟩ := hq
  refine V.if_ne 19 dX12_change_13 (by decide) (fun c6 => ?_) (fun c6 => ?_)
  · rw [if_neg c6] at hf
    refine V.aload_n dX12_change_19 rfl ?_
    obtain ⟨I9, hk8, hf⟩ := bnd_some hf
    try dsimp only at hf
    refine V.inv cv_X12_264 (c_r_keeps hs_z hk8) dX12_change_20 (hs_z.1 0 (12, 0) rfl) (by decide) rfl rfl rfl (Nat.le_of_ble_eq_true rfl) (by decide) (by decide) (Nat.le_refl _) (Nat.le_refl _) (fun _ _ hq => ?_)
    obtain ⟨rfl, rfl⟩ := hq
    refine V.aload_n dX12_change_23 rfl ?_
    refine V.iload_n dX12_change_24 rfl ?_
    refine V.iload_n dX12_change_25 rfl ?_
    obtain ⟨I12, hk11, hf⟩ := bnd_some hf
    try dsimp only at hf
    refine V.inv cv_X12_284 (c_r_changes hs_z hk11) dX12_change_26 (hs_z.1 0 (12, 0) rfl) (by decide) rfl rfl rfl (Nat.le_of_ble_eq_true rfl) (by decide) (by decide) (Nat.le_refl _) (Nat.le_refl _) (fun _ _ hq => ?_)
    obtain ⟨rfl, rfl⟩ := hq
    refine V.aload_n dX12_change_29 rfl ?_
    obtain ⟨I15, hk14, hf⟩ := bnd_some hf
    try dsimp only at hf
    refine V.inv cv_X12_270 (c_r_notes hs_z hk14) dX12_change_30 (hs_z.1 0 (12, 0) rfl) (by decide) rfl rfl rfl (Nat.le_of_ble_eq_true rfl) (by decide) (by decide) (Nat.le_refl _) (Nat.le_refl _) (fun _ _ hq => ?_)
    obtain ⟨rfl, rfl⟩ := hq
    refine V.aload_n dX12_change_33 rfl ?_
    refine V.getr fl_X12_13 dX12_change_34 (hs_z.1 0 (12, 0) rfl) (hs_z.2 0 1 1 rfl) (by decide) rfl ?_
    refine V.bipush (v := 35) dX12_change_37 (by decide) ?_
    refine V.iload_n dX12_change_39 rfl ?_
    refine V.iadd dX12_change_40 ?_
    obtain ⟨hb16, hf⟩ := chk_some hf
    refine V.iald dX12_change_41 (hs_z.1 1 (20, 3891) rfl) hb16 ?_
    obtain rfl := Option.some.inj hf
    exact V.iret dX12_change_42 rfl (Nat.le_refl _) (Nat.le_refl _) ⟨rfl, rfl⟩
  · rw [if_pos c6] at hf
    refine V.bipush (v := -11) dX12_change_16 (by decide) ?_
    obtain rfl := Option.some.inj hf
    exact V.iret dX12_change_18 rfl (Nat.le_refl _) (Nat.le_refl _) ⟨rfl, rfl⟩
theorem dX12_wine_0 : decode cX12_wine 0 = .ok (.aload_n 0, 1) := by decide +kernel
theorem dX12_wine_1 : decode cX12_wine 1 = .ok (.iconst 0, 1) := by decide +kernel
theorem dX12_wine_2 : decode cX12_wine 2 = .ok (.putfield 1, 3) := by decide +kernel
theorem dX12_wine_5 : decode cX12_wine 5 = .ok (.aload_n 0, 1) := by decide +kernel
theorem dX12_wine_6 : decode cX12_wine 6 = .ok (.iload_n 1, 1) := by decide +kernel
theorem dX12_wine_7 : decode cX12_wine 7 = .ok (.i2l, 1) := by decide +kernel
theorem dX12_wine_8 : decode cX12_wine 8 = .ok (.iload_n 2, 1) := by decide +kernel
theorem dX12_wine_9 : decode cX12_wine 9 = .ok (.i2l, 1) := by decide +kernel
theorem dX12_wine_10 : decode cX12_wine 10 = .ok (.invokevirtual 288, 3) := by decide +kernel
theorem dX12_wine_13 : decode cX12_wine 13 = .ok (.istore_n 3, 1) := by decide +kernel
theorem dX12_wine_14 : decode cX12_wine 14 = .ok (.iload_n 3, 1) := by decide +kernel
theorem dX12_wine_15 : decode cX12_wine 15 = .ok (.ifCond .eq 8, 3) := by decide +kernel
theorem dX12_wine_18 : decode cX12_wine 18 = .ok (.bipush (-10), 2) := by decide +kernel
theorem dX12_wine_20 : decode cX12_wine 20 = .ok (.iload_n 3, 1) := by decide +kernel
theorem dX12_wine_21 : decode cX12_wine 21 = .ok (.isub, 1) := by decide +kernel
theorem dX12_wine_22 : decode cX12_wine 22 = .ok (.ireturn, 1) := by decide +kernel
theorem dX12_wine_23 : decode cX12_wine 23 = .ok (.aload_n 0, 1) := by decide +kernel
theorem dX12_wine_24 : decode cX12_wine 24 = .ok (.invokevirtual 264, 3) := by decide +kernel
theorem dX12_wine_27 : decode cX12_wine 27 = .ok (.aload_n 0, 1) := by decide +kernel
theorem dX12_wine_28 : decode cX12_wine 28 = .ok (.iload_n 1, 1) := by decide +kernel
theorem dX12_wine_29 : decode cX12_wine 29 = .ok (.iload_n 2, 1) := by decide +kernel
theorem dX12_wine_30 : decode cX12_wine 30 = .ok (.invokevirtual 292, 3) := by decide +kernel
theorem dX12_wine_33 : decode cX12_wine 33 = .ok (.aload_n 0, 1) := by decide +kernel
theorem dX12_wine_34 : decode cX12_wine 34 = .ok (.invokevirtual 270, 3) := by decide +kernel
theorem dX12_wine_37 : decode cX12_wine 37 = .ok (.aload_n 0, 1) := by decide +kernel
theorem dX12_wine_38 : decode cX12_wine 38 = .ok (.getfield 13, 3) := by decide +kernel
theorem dX12_wine_41 : decode cX12_wine 41 = .ok (.bipush 41, 2) := by decide +kernel
theorem dX12_wine_43 : decode cX12_wine 43 = .ok (.iload_n 1, 1) := by decide +kernel
theorem dX12_wine_44 : decode cX12_wine 44 = .ok (.iadd, 1) := by decide +kernel
theorem dX12_wine_45 : decode cX12_wine 45 = .ok (.iaload, 1) := by decide +kernel
theorem dX12_wine_46 : decode cX12_wine 46 = .ok (.ireturn, 1) := by decide +kernel
def r_wine (F : Nat) (I : Nat → Nat → Int32) (z : Nat) (v1 : Int32) (v2 : Int32) : Option (Int32 × (Nat → Nat → Int32)) := let I1 := uI I z 0 0; (r_whyWine I1 z (Int32.toInt64 v1) (Int32.toInt64 v2)).bind (fun q3 => let u5 := q3; if u5 = 0 then ((r_keeps F I1 z).bind (fun q7 => let I9 := q7; (r_drinks I9 z v1 v2).bind (fun q10 => let I12 := q10; (r_notes F I12 z).bind (fun q13 => let I15 := q13; chk (41 + v1) 3891 (some ((I15 (z + 1) (Int32.toNatClampNeg (41 + v1))), I15)))))) else (some (((-10) - u5), I1)))
theorem c_r_wine {l : Launch} {D : va_G} {E : Nat → ClassId} {B : Nat → Prop} {n F : Nat} {T : Nat → Option (Nat × Nat)} {I : Nat → Nat → Int32} {J : Nat → Nat → Int64} {P : Nat → Nat → Option Nat} {z : Nat} {v1 : Int32} {v2 : Int32} {r : Int32 × (Nat → Nat → Int32)} (hs_z : isMd T P z) (hf : r_wine F I z v1 v2 = some r) : Ct l D E B yX12_wine cX12_wine 4 (some .int) 3 0 0 [.ref z, .int v1, .int v2] (n, T, I, J, P) (Ret (some (.int r.1)) (n, T, r.2, J, P)) := by
  unfold r_wine at hf
  refine Ct.ofV (by decide) (Nat.le_of_ble_eq_true rfl) ?_
  refine V.aload_n dX12_wine_0 rfl ?_
  refine V.iconst (v := 0) dX12_wine_1 (by decide) ?_
  refine V.putiE fl_X12_1 dX12_wine_2 (hs_z.1 0 (12, 0) rfl) (by decide) (fun h => by cases h) rfl rfl rfl (Nat.le_of_ble_eq_true rfl) (fun I1 e2 => ?_)
  rw [← e2] at hf
  try dsimp only at hf
  clear e2
  refine V.aload_n dX12_wine_5 rfl ?_
  refine V.iload_n dX12_wine_6 rfl ?_
  refine V.i2l dX12_wine_7 ?_
  refine V.iload_n dX12_wine_8 rfl ?_
  refine V.i2l dX12_wine_9 ?_
  obtain ⟨u5, hk4, hf⟩ := bnd_some hf
  try dsimp only at hf
  refine V.inv cv_X12_288 (c_r_whyWine hs_z hk4) dX12_wine_10 (hs_z.1 0 (12, 0) rfl) (by decide) rfl rfl rfl (Nat.le_of_ble_eq_true rfl) (by decide) (by decide) (Nat.le_refl _) (Nat.le_refl _) (fun _ _ hq => ?_)
  obtain ⟨rfl, rfl⟩ := hq
  refine V.istore_n dX12_wine_13 rfl (by decide) (by first | exact rfl | exact trivial) ?_
  refine V.iload_n dX12_wine_14 rfl ?_
  refine V.if_eq 23 dX12_wine_15 (by decide) (fun c6 => ?_) (fun c6 => ?_)
  · rw [if_pos c6] at hf
    refine V.aload_n dX12_wine_23 rfl ?_
    obtain ⟨I9, hk8, hf⟩ := bnd_some hf
    try dsimp only at hf
    refine V.inv cv_X12_264 (c_r_keeps hs_z hk8) dX12_wine_24 (hs_z.1 0 (12, 0) rfl) (by decide) rfl rfl rfl (Nat.le_of_ble_eq_true rfl) (by decide) (by decide) (Nat.le_refl _) (Nat.le_refl _) (fun _ _ hq => ?_)
    obtain ⟨rfl, rfl⟩ := hq
    refine V.aload_n dX12_wine_27 rfl ?_
    refine V.iload_n dX12_wine_28 rfl ?_
    refine V.iload_n dX12_wine_29 rfl ?_
    obtain ⟨I12, hk11, hf⟩ := bnd_some hf
    try dsimp only at hf
    refine V.inv cv_X12_292 (c_r_drinks hs_z hk11) dX12_wine_30 (hs_z.1 0 (12, 0) rfl) (by decide) rfl rfl rfl (Nat.le_of_ble_eq_true rfl) (by decide) (by decide) (Nat.le_refl _) (Nat.le_refl _) (fun _ _ hq => ?_)
    obtain ⟨rfl, rfl⟩ := hq
    refine V.aload_n dX12_wine_33 rfl ?_
    obtain ⟨I15, hk14, hf⟩ := bnd_some hf
    try dsimp only at hf
    refine V.inv cv_X12_270 (c_r_notes hs_z hk14) dX12_wine_34 (hs_z.1 0 (12, 0) rfl) (by decide) rfl rfl rfl (Nat.le_of_ble_eq_true rfl) (by decide) (by decide) (Nat.le_refl _) (Nat.le_refl _) (fun _ _ hq => ?_)
    obtain ⟨rfl, rfl⟩ := hq
    refine V.aload_n dX12_wine_37 rfl ?_
    refine V.getr fl_X12_13 dX12_wine_38 (hs_z.1 0 (12, 0) rfl) (hs_z.2 0 1 1 rfl) (by decide) rfl ?_
    refine V.bipush (v := 41) dX12_wine_41 (by decide) ?_
    refine V.iload_n dX12_wine_43 rfl ?_
    refine V.iadd dX12_wine_44 ?_
    obtain ⟨hb16, hf⟩ := chk_some hf
    refine V.iald dX12_wine_45 (hs_z.1 1 (20, 3891) rfl) hb16 ?_
    obtain rfl := Option.some.inj hf
    exact V.iret dX12_wine_46 rfl (Nat.le_refl _) (Nat.le_refl _) ⟨rfl, rfl⟩
  · rw [if_neg c6] at hf
    refine V.bipush (v := -10) dX12_wine_18 (by decide) ?_
    refine V.iload_n dX12_wine_20 rfl ?_
    refine V.isub dX12_wine_21 ?_
    obtain rfl := Option.some.inj hf
    exact V.iret dX12_wine_22 rfl (Nat.le_refl _) (Nat.le_refl _) ⟨rfl, rfl⟩
theorem dX12_evening_0 : decode cX12_evening 0 = .ok (.aload_n 0, 1) := by decide +kernel
theorem dX12_evening_1 : decode cX12_evening 1 = .ok (.iconst 0, 1) := by decide +kernel
theorem dX12_evening_2 : decode cX12_evening 2 = .ok (.putfield 1, 3) := by decide +kernel
theorem dX12_evening_5 : decode cX12_evening 5 = .ok (.aload_n 0, 1) := by decide +kernel
theorem dX12_evening_6 : decode cX12_evening 6 = .ok (.invokevirtual 264, 3) := by decide +kernel
theorem dX12_evening_9 : decode cX12_evening 9 = .ok (.aload_n 0, 1) := by decide +kernel
theorem dX12_evening_10 : decode cX12_evening 10 = .ok (.invokevirtual 207, 3) := by decide +kernel
theorem dX12_evening_13 : decode cX12_evening 13 = .ok (.aload_n 0, 1) := by decide +kernel
theorem dX12_evening_14 : decode cX12_evening 14 = .ok (.invokevirtual 270, 3) := by decide +kernel
theorem dX12_evening_17 : decode cX12_evening 17 = .ok (.aload_n 0, 1) := by decide +kernel
theorem dX12_evening_18 : decode cX12_evening 18 = .ok (.getfield 36, 3) := by decide +kernel
theorem dX12_evening_21 : decode cX12_evening 21 = .ok (.iconst 1, 1) := by decide +kernel
theorem dX12_evening_22 : decode cX12_evening 22 = .ok (.iaload, 1) := by decide +kernel
theorem dX12_evening_23 : decode cX12_evening 23 = .ok (.ireturn, 1) := by decide +kernel
def r_evening (F : Nat) (I : Nat → Nat → Int32) (z : Nat) : Option (Int32 × (Nat → Nat → Int32)) := let I1 := uI I z 0 0; (r_keeps F I1 z).bind (fun q3 => let I5 := q3; (r_evenings F I5 z).bind (fun q6 => let I8 := q6; (r_notes F I8 z).bind (fun q9 => let I11 := q9; some ((I11 (z + 7) (Int32.toNatClampNeg 1)), I11))))
theorem c_r_evening {l : Launch} {D : va_G} {E : Nat → ClassId} {B : Nat → Prop} {n F : Nat} {T : Nat → Option (Nat × Nat)} {I : Nat → Nat → Int32} {J : Nat → Nat → Int64} {P : Nat → Nat → Option Nat} {z : Nat}  {r : Int32 × (Nat → Nat → Int32)} (hs_z : isMd T P z) (hf : r_evening F I z = some r) : Ct l D E B yX12_evening cX12_evening 1 (some .int) 1 0 0 [.ref z] (n, T, I, J, P) (Ret (some (.int r.1)) (n, T, r.2, J, P)) := by
  unfold r_evening at hf
  refine Ct.ofV (by decide) (Nat.le_of_ble_eq_true rfl) ?_
  refine V.aload_n dX12_evening_0 rfl ?_
  refine V.iconst (v := 0) dX12_evening_1 (by decide) ?_
  refine V.putiE fl_X12_1 dX12_evening_2 (hs_z.1 0 (12, 0) rfl) (by decide) (fun h => by cases h) rfl rfl rfl (Nat.le_of_ble_eq_true rfl) (fun I1 e2 => ?_)
  rw [← e2] at hf
  try dsimp only at hf
  clear e2
  refine V.aload_n dX12_evening_5 rfl ?_
  obtain ⟨I5, hk4, hf⟩ := bnd_some hf
  try dsimp only at hf
  refine V.inv cv_X12_264 (c_r_keeps hs_z hk4) dX12_evening_6 (hs_z.1 0 (12, 0) rfl) (by decide) rfl rfl rfl (Nat.le_of_ble_eq_true rfl) (by decide) (by decide) (Nat.le_refl _) (Nat.le_refl _) (fun _ _ hq => ?_)
  obtain ⟨rfl, rfl⟩ := hq
  refine V.aload_n dX12_evening_9 rfl ?_
  obtain ⟨I8, hk7, hf⟩ := bnd_some hf
  try dsimp only at hf
  refine V.inv cv_X12_207 (c_r_evenings hs_z hk7) dX12_evening_10 (hs_z.1 0 (12, 0) rfl) (by decide) rfl rfl rfl (Nat.le_of_ble_eq_true rfl) (by decide) (by decide) (Nat.le_refl _) (Nat.le_refl _) (fun _ _ hq => ?_)
  obtain ⟨rfl, rfl⟩ := hq
  refine V.aload_n dX12_evening_13 rfl ?_
  obtain ⟨I11, hk10, hf⟩ := bnd_some hf
  try dsimp only at hf
  refine V.inv cv_X12_270 (c_r_notes hs_z hk10) dX12_evening_14 (hs_z.1 0 (12, 0) rfl) (by decide) rfl rfl rfl (Nat.le_of_ble_eq_true rfl) (by decide) (by decide) (Nat.le_refl _) (Nat.le_refl _) (fun _ _ hq => ?_)
  obtain ⟨rfl, rfl⟩ := hq
  refine V.aload_n dX12_evening_17 rfl ?_
  refine V.getr fl_X12_36 dX12_evening_18 (hs_z.1 0 (12, 0) rfl) (hs_z.2 0 17 7 rfl) (by decide) rfl ?_
  refine V.iconst (v := 1) dX12_evening_21 (by decide) ?_
  refine V.iald dX12_evening_22 (hs_z.1 7 (20, 33) rfl) (vp_lit (by decide)) ?_
  obtain rfl := Option.some.inj hf
  exact V.iret dX12_evening_23 rfl (Nat.le_refl _) (Nat.le_refl _) ⟨rfl, rfl⟩
theorem dX12_undo_0 : decode cX12_undo 0 = .ok (.aload_n 0, 1) := by decide +kernel
theorem dX12_undo_1 : decode cX12_undo 1 = .ok (.iconst 0, 1) := by decide +kernel
theorem dX12_undo_2 : decode cX12_undo 2 = .ok (.putfield 1, 3) := by decide +kernel
theorem dX12_undo_5 : decode cX12_undo 5 = .ok (.iload_n 1, 1) := by decide +kernel
theorem dX12_undo_6 : decode cX12_undo 6 = .ok (.i2l, 1) := by decide +kernel
theorem dX12_undo_7 : decode cX12_undo 7 = .ok (.lconst 1, 1) := by decide +kernel
theorem dX12_undo_8 : decode cX12_undo 8 = .ok (.ldc2_w 295, 3) := by decide +kernel
theorem dX12_undo_11 : decode cX12_undo 11 = .ok (.invokestatic 145, 3) := by decide +kernel
theorem dX12_undo_14 : decode cX12_undo 14 = .ok (.ifCond .eq 14, 3) := by decide +kernel
theorem dX12_undo_17 : decode cX12_undo 17 = .ok (.iload_n 1, 1) := by decide +kernel
theorem dX12_undo_18 : decode cX12_undo 18 = .ok (.aload_n 0, 1) := by decide +kernel
theorem dX12_undo_19 : decode cX12_undo 19 = .ok (.getfield 13, 3) := by decide +kernel
theorem dX12_undo_22 : decode cX12_undo 22 = .ok (.bipush 65, 2) := by decide +kernel
theorem dX12_undo_24 : decode cX12_undo 24 = .ok (.iaload, 1) := by decide +kernel
theorem dX12_undo_25 : decode cX12_undo 25 = .ok (.if_icmp .le 6, 3) := by decide +kernel
theorem dX12_undo_28 : decode cX12_undo 28 = .ok (.bipush (-3), 2) := by decide +kernel
theorem dX12_undo_30 : decode cX12_undo 30 = .ok (.ireturn, 1) := by decide +kernel
theorem dX12_undo_31 : decode cX12_undo 31 = .ok (.aload_n 0, 1) := by decide +kernel
theorem dX12_undo_32 : decode cX12_undo 32 = .ok (.getfield 13, 3) := by decide +kernel
theorem dX12_undo_35 : decode cX12_undo 35 = .ok (.bipush 65, 2) := by decide +kernel
theorem dX12_undo_37 : decode cX12_undo 37 = .ok (.dup2, 1) := by decide +kernel
theorem dX12_undo_38 : decode cX12_undo 38 = .ok (.iaload, 1) := by decide +kernel
theorem dX12_undo_39 : decode cX12_undo 39 = .ok (.iload_n 1, 1) := by decide +kernel
theorem dX12_undo_40 : decode cX12_undo 40 = .ok (.isub, 1) := by decide +kernel
theorem dX12_undo_41 : decode cX12_undo 41 = .ok (.iastore, 1) := by decide +kernel
theorem dX12_undo_42 : decode cX12_undo 42 = .ok (.iconst 0, 1) := by decide +kernel
theorem dX12_undo_43 : decode cX12_undo 43 = .ok (.istore_n 2, 1) := by decide +kernel
theorem dX12_undo_44 : decode cX12_undo 44 = .ok (.iload_n 2, 1) := by decide +kernel
theorem dX12_undo_45 : decode cX12_undo 45 = .ok (.bipush 33, 2) := by decide +kernel
theorem dX12_undo_47 : decode cX12_undo 47 = .ok (.if_icmp .ge 38, 3) := by decide +kernel
theorem dX12_undo_50 : decode cX12_undo 50 = .ok (.aload_n 0, 1) := by decide +kernel
theorem dX12_undo_51 : decode cX12_undo 51 = .ok (.getfield 13, 3) := by decide +kernel
theorem dX12_undo_54 : decode cX12_undo 54 = .ok (.bipush 32, 2) := by decide +kernel
theorem dX12_undo_56 : decode cX12_undo 56 = .ok (.iload_n 2, 1) := by decide +kernel
theorem dX12_undo_57 : decode cX12_undo 57 = .ok (.iadd, 1) := by decide +kernel
theorem dX12_undo_58 : decode cX12_undo 58 = .ok (.aload_n 0, 1) := by decide +kernel
theorem dX12_undo_59 : decode cX12_undo 59 = .ok (.getfield 13, 3) := by decide +kernel
theorem dX12_undo_62 : decode cX12_undo 62 = .ok (.bipush 66, 2) := by decide +kernel
theorem dX12_undo_64 : decode cX12_undo 64 = .ok (.bipush 33, 2) := by decide +kernel
theorem dX12_undo_66 : decode cX12_undo 66 = .ok (.aload_n 0, 1) := by decide +kernel
theorem dX12_undo_67 : decode cX12_undo 67 = .ok (.getfield 13, 3) := by decide +kernel
theorem dX12_undo_70 : decode cX12_undo 70 = .ok (.bipush 65, 2) := by decide +kernel
theorem dX12_undo_72 : decode cX12_undo 72 = .ok (.iaload, 1) := by decide +kernel
theorem dX12_undo_73 : decode cX12_undo 73 = .ok (.imul, 1) := by decide +kernel
theorem dX12_undo_74 : decode cX12_undo 74 = .ok (.iadd, 1) := by decide +kernel
theorem dX12_undo_75 : decode cX12_undo 75 = .ok (.iload_n 2, 1) := by decide +kernel
theorem dX12_undo_76 : decode cX12_undo 76 = .ok (.iadd, 1) := by decide +kernel
theorem dX12_undo_77 : decode cX12_undo 77 = .ok (.iaload, 1) := by decide +kernel
theorem dX12_undo_78 : decode cX12_undo 78 = .ok (.iastore, 1) := by decide +kernel
theorem dX12_undo_79 : decode cX12_undo 79 = .ok (.iinc 2 1, 3) := by decide +kernel
theorem dX12_undo_82 : decode cX12_undo 82 = .ok (.goto (-38), 3) := by decide +kernel
theorem dX12_undo_85 : decode cX12_undo 85 = .ok (.aload_n 0, 1) := by decide +kernel
theorem dX12_undo_86 : decode cX12_undo 86 = .ok (.getfield 13, 3) := by decide +kernel
theorem dX12_undo_89 : decode cX12_undo 89 = .ok (.bipush 65, 2) := by decide +kernel
theorem dX12_undo_91 : decode cX12_undo 91 = .ok (.iaload, 1) := by decide +kernel
theorem dX12_undo_92 : decode cX12_undo 92 = .ok (.ireturn, 1) := by decide +kernel
def r_undo_44 (F : Nat) (z : Nat) (g1 : Int32) : Nat → Int32 → (Nat → Nat → Int32) → Option (Int32 × (Nat → Nat → Int32))
  | 0, _, _ => none
  | k + 1, l2, I => if 33 ≤ l2 then (some (l2, I)) else (chk ((66 + (33 * (I (z + 1) (Int32.toNatClampNeg 65)))) + l2) 3891 (chk (32 + l2) 3891 (let I10 := uI I (z + 1) (Int32.toNatClampNeg (32 + l2)) (I (z + 1) (Int32.toNatClampNeg ((66 + (33 * (I (z + 1) (Int32.toNatClampNeg 65)))) + l2))); r_undo_44 F z g1 k (l2 + 1) I10)))
def r_undo (F : Nat) (I : Nat → Nat → Int32) (z : Nat) (v1 : Int32) : Option (Int32 × (Nat → Nat → Int32)) := let I1 := uI I z 0 0; if (r_within (Int32.toInt64 v1) 1 10) = 0 then (some ((-3), I1)) else (if v1 ≤ (I1 (z + 1) (Int32.toNatClampNeg 65)) then (let I5 := uI I1 (z + 1) (Int32.toNatClampNeg 65) ((I1 (z + 1) (Int32.toNatClampNeg 65)) - v1); (r_undo_44 F z v1 F 0 I5).bind (fun q12 => let m14 := q12.1; let I15 := q12.2; some ((I15 (z + 1) (Int32.toNatClampNeg 65)), I15))) else (some ((-3), I1)))
theorem l_r_undo_44 {l : Launch} {D : va_G} {E : Nat → ClassId} {B : Nat → Prop} {n F : Nat} {Q : Option Value → HT → Prop} {T : Nat → Option (Nat × Nat)} {J : Nat → Nat → Int64} {P : Nat → Nat → Option Nat} {z : Nat} {g1 : Int32} (hs_z : isMd T P z)  (r : Int32 × (Nat → Nat → Int32)) : ∀ (k : Nat) (l2 : Int32) (I : (Nat → Nat → Int32)), r_undo_44 F z g1 k l2 I = some r → V l D E B yX12_undo cX12_undo 3 (some .int) 1 0 0 Q 0 0 (n, T, r.2, J, P) 85 [(0, some (.ref z)), (1, some (.int g1)), (2, some (.int (r.1)))] [] → V l D E B yX12_undo cX12_undo 3 (some .int) 1 0 0 Q 0 0 (n, T, I, J, P) 44 [(0, some (.ref z)), (1, some (.int g1)), (2, some (.int l2))] [] := by
  intro k
  induction k with
  | zero =>
    intro l2 I hf hk
    cases hf
  | succ k ih =>
    intro l2 I hf hk
    unfold r_undo_44 at hf
    refine V.iload_n dX12_undo_44 rfl ?_
    refine V.bipush (v := 33) dX12_undo_45 (by decide) ?_
    refine V.icmp_ge 85 dX12_undo_47 (by decide) (fun c7 => ?_) (fun c7 => ?_)
    · rw [if_pos c7] at hf
      obtain rfl := Option.some.inj hf
      exact V.lo [(0, some (.ref z)), (1, some (.int g1)), (2, some (.int l2))] (by simp only [Subs]; repeat' first | exact trivial | constructor | rfl) hk
    · rw [if_neg c7] at hf
      refine V.aload_n dX12_undo_50 rfl ?_
      refine V.getr fl_X12_13 dX12_undo_51 (hs_z.1 0 (12, 0) rfl) (hs_z.2 0 1 1 rfl) (by decide) rfl ?_
      refine V.bipush (v := 32) dX12_undo_54 (by decide) ?_
      refine V.iload_n dX12_undo_56 rfl ?_
      refine V.iadd dX12_undo_57 ?_
      refine V.aload_n dX12_undo_58 rfl ?_
      refine V.getr fl_X12_13 dX12_undo_59 (hs_z.1 0 (12, 0) rfl) (hs_z.2 0 1 1 rfl) (by decide) rfl ?_
      refine V.bipush (v := 66) dX12_undo_62 (by decide) ?_
      refine V.bipush (v := 33) dX12_undo_64 (by decide) ?_
      refine V.aload_n dX12_undo_66 rfl ?_
      refine V.getr fl_X12_13 dX12_undo_67 (hs_z.1 0 (12, 0) rfl) (hs_z.2 0 1 1 rfl) (by decide) rfl ?_
      refine V.bipush (v := 65) dX12_undo_70 (by decide) ?_
      refine V.iald dX12_undo_72 (hs_z.1 1 (20, 3891) rfl) (vp_lit (by decide)) ?_
      refine V.imul dX12_undo_73 ?_
      refine V.iadd dX12_undo_74 ?_
      refine V.iload_n dX12_undo_75 rfl ?_
      refine V.iadd dX12_undo_76 ?_
      obtain ⟨hb8, hf⟩ := chk_some hf
      refine V.iald dX12_undo_77 (hs_z.1 1 (20, 3891) rfl) hb8 ?_
      obtain ⟨hb9, hf⟩ := chk_some hf
      refine V.iastE dX12_undo_78 (hs_z.1 1 (20, 3891) rfl) hb9 (fun I10 e11 => ?_)
      rw [← e11] at hf
      try dsimp only at hf
      clear e11
      refine V.iinc (v := (l2 + 1)) dX12_undo_79 rfl rfl (by first | exact rfl | exact trivial) ?_
      refine V.goto 44 dX12_undo_82 (by decide) ?_
      exact V.lo [(0, some (.ref z)), (1, some (.int g1)), (2, some (.int (l2 + 1)))] (by simp only [Subs]; repeat' first | exact trivial | constructor | rfl) (ih _ _ hf hk)
theorem c_r_undo {l : Launch} {D : va_G} {E : Nat → ClassId} {B : Nat → Prop} {n F : Nat} {T : Nat → Option (Nat × Nat)} {I : Nat → Nat → Int32} {J : Nat → Nat → Int64} {P : Nat → Nat → Option Nat} {z : Nat} {v1 : Int32} {r : Int32 × (Nat → Nat → Int32)} (hs_z : isMd T P z) (hf : r_undo F I z v1 = some r) : Ct l D E B yX12_undo cX12_undo 3 (some .int) 1 0 0 [.ref z, .int v1] (n, T, I, J, P) (Ret (some (.int r.1)) (n, T, r.2, J, P)) := by
  unfold r_undo at hf
  refine Ct.ofV (by decide) (Nat.le_of_ble_eq_true rfl) ?_
  refine V.aload_n dX12_undo_0 rfl ?_
  refine V.iconst (v := 0) dX12_undo_1 (by decide) ?_
  refine V.putiE fl_X12_1 dX12_undo_2 (hs_z.1 0 (12, 0) rfl) (by decide) (fun h => by cases h) rfl rfl rfl (Nat.le_of_ble_eq_true rfl) (fun I1 e2 => ?_)
  rw [← e2] at hf
  try dsimp only at hf
  clear e2
  refine V.iload_n dX12_undo_5 rfl ?_
  refine V.i2l dX12_undo_6 ?_
  refine V.lconst (v := 1) dX12_undo_7 (by decide) ?_
  refine V.ldc2 dX12_undo_8 kc_X12_295 ?_
  refine V.ins cs_X12_145 (c_r_within) dX12_undo_11 rfl rfl (Nat.le_of_ble_eq_true rfl) (by decide) (by decide) (Nat.le_refl _) (Nat.le_refl _) (fun _ _ hq => ?_)
  obtain ⟨rfl, rfl⟩ := hq
  refine V.if_eq 28 dX12_undo_14 (by decide) (fun c3 => ?_) (fun c3 => ?_)
  · rw [if_pos c3] at hf
    refine V.bipush (v := -3) dX12_undo_28 (by decide) ?_
    obtain rfl := Option.some.inj hf
    exact V.iret dX12_undo_30 rfl (Nat.le_refl _) (Nat.le_refl _) ⟨rfl, rfl⟩
  · rw [if_neg c3] at hf
    refine V.iload_n dX12_undo_17 rfl ?_
    refine V.aload_n dX12_undo_18 rfl ?_
    refine V.getr fl_X12_13 dX12_undo_19 (hs_z.1 0 (12, 0) rfl) (hs_z.2 0 1 1 rfl) (by decide) rfl ?_
    refine V.bipush (v := 65) dX12_undo_22 (by decide) ?_
    refine V.iald dX12_undo_24 (hs_z.1 1 (20, 3891) rfl) (vp_lit (by decide)) ?_
    refine V.icmp_le 31 dX12_undo_25 (by decide) (fun c4 => ?_) (fun c4 => ?_)
    · rw [if_pos c4] at hf
      refine V.aload_n dX12_undo_31 rfl ?_
      refine V.getr fl_X12_13 dX12_undo_32 (hs_z.1 0 (12, 0) rfl) (hs_z.2 0 1 1 rfl) (by decide) rfl ?_
      refine V.bipush (v := 65) dX12_undo_35 (by decide) ?_
      refine V.dup2 dX12_undo_37 rfl rfl ?_
      refine V.iald dX12_undo_38 (hs_z.1 1 (20, 3891) rfl) (vp_lit (by decide)) ?_
      refine V.iload_n dX12_undo_39 rfl ?_
      refine V.isub dX12_undo_40 ?_
      refine V.iastE dX12_undo_41 (hs_z.1 1 (20, 3891) rfl) (vp_lit (by decide)) (fun I5 e6 => ?_)
      rw [← e6] at hf
      try dsimp only at hf
      clear e6
      refine V.iconst (v := 0) dX12_undo_42 (by decide) ?_
      refine V.istore_n dX12_undo_43 rfl (by decide) (by first | exact rfl | exact trivial) ?_
      obtain ⟨⟨m14, I15⟩, hk13, hf⟩ := bnd_some hf
      try dsimp only at hf
      refine V.lo [(0, some (.ref z)), (1, some (.int v1)), (2, some (.int 0))] (by simp only [Subs]; repeat' first | exact trivial | constructor | rfl) (l_r_undo_44 hs_z _ F _ _ hk13 ?_)
      try dsimp only
      refine V.aload_n dX12_undo_85 rfl ?_
      refine V.getr fl_X12_13 dX12_undo_86 (hs_z.1 0 (12, 0) rfl) (hs_z.2 0 1 1 rfl) (by decide) rfl ?_
      refine V.bipush (v := 65) dX12_undo_89 (by decide) ?_
      refine V.iald dX12_undo_91 (hs_z.1 1 (20, 3891) rfl) (vp_lit (by decide)) ?_
      obtain rfl := Option.some.inj hf
      exact V.iret dX12_undo_92 rfl (Nat.le_refl _) (Nat.le_refl _) ⟨rfl, rfl⟩
    · rw [if_neg c4] at hf
      refine V.bipush (v := -3) dX12_undo_28 (by decide) ?_
      obtain rfl := Option.some.inj hf
      exact V.iret dX12_undo_30 rfl (Nat.le_refl _) (Nat.le_refl _) ⟨rfl, rfl⟩
theorem dX12_whyNot_0 : decode cX12_whyNot 0 = .ok (.lload_n 1, 1) := by decide +kernel
theorem dX12_whyNot_1 : decode cX12_whyNot 1 = .ok (.ldc2_w 221, 3) := by decide +kernel
theorem dX12_whyNot_4 : decode cX12_whyNot 4 = .ok (.lcmp, 1) := by decide +kernel
theorem dX12_whyNot_5 : decode cX12_whyNot 5 = .ok (.ifCond .ne 5, 3) := by decide +kernel
theorem dX12_whyNot_8 : decode cX12_whyNot 8 = .ok (.iconst 0, 1) := by decide +kernel
theorem dX12_whyNot_9 : decode cX12_whyNot 9 = .ok (.ireturn, 1) := by decide +kernel
theorem dX12_whyNot_10 : decode cX12_whyNot 10 = .ok (.lload_n 1, 1) := by decide +kernel
theorem dX12_whyNot_11 : decode cX12_whyNot 11 = .ok (.lconst 0, 1) := by decide +kernel
theorem dX12_whyNot_12 : decode cX12_whyNot 12 = .ok (.ldc2_w 262, 3) := by decide +kernel
theorem dX12_whyNot_15 : decode cX12_whyNot 15 = .ok (.invokestatic 145, 3) := by decide +kernel
theorem dX12_whyNot_18 : decode cX12_whyNot 18 = .ok (.ifCond .eq 17, 3) := by decide +kernel
theorem dX12_whyNot_21 : decode cX12_whyNot 21 = .ok (.aload_n 0, 1) := by decide +kernel
theorem dX12_whyNot_22 : decode cX12_whyNot 22 = .ok (.lload_n 1, 1) := by decide +kernel
theorem dX12_whyNot_23 : decode cX12_whyNot 23 = .ok (.invokevirtual 248, 3) := by decide +kernel
theorem dX12_whyNot_26 : decode cX12_whyNot 26 = .ok (.ifCond .eq 7, 3) := by decide +kernel
theorem dX12_whyNot_29 : decode cX12_whyNot 29 = .ok (.iconst 0, 1) := by decide +kernel
theorem dX12_whyNot_30 : decode cX12_whyNot 30 = .ok (.goto 4, 3) := by decide +kernel
theorem dX12_whyNot_33 : decode cX12_whyNot 33 = .ok (.iconst 1, 1) := by decide +kernel
theorem dX12_whyNot_34 : decode cX12_whyNot 34 = .ok (.ireturn, 1) := by decide +kernel
theorem dX12_whyNot_35 : decode cX12_whyNot 35 = .ok (.lload_n 1, 1) := by decide +kernel
theorem dX12_whyNot_36 : decode cX12_whyNot 36 = .ok (.ldc2_w 295, 3) := by decide +kernel
theorem dX12_whyNot_39 : decode cX12_whyNot 39 = .ok (.ldc2_w 297, 3) := by decide +kernel
theorem dX12_whyNot_42 : decode cX12_whyNot 42 = .ok (.invokestatic 145, 3) := by decide +kernel
theorem dX12_whyNot_45 : decode cX12_whyNot 45 = .ok (.ifCond .eq 13, 3) := by decide +kernel
theorem dX12_whyNot_48 : decode cX12_whyNot 48 = .ok (.aload_n 0, 1) := by decide +kernel
theorem dX12_whyNot_49 : decode cX12_whyNot 49 = .ok (.lload_n 1, 1) := by decide +kernel
theorem dX12_whyNot_50 : decode cX12_whyNot 50 = .ok (.ldc2_w 295, 3) := by decide +kernel
theorem dX12_whyNot_53 : decode cX12_whyNot 53 = .ok (.lsub, 1) := by decide +kernel
theorem dX12_whyNot_54 : decode cX12_whyNot 54 = .ok (.invokevirtual 273, 3) := by decide +kernel
theorem dX12_whyNot_57 : decode cX12_whyNot 57 = .ok (.ireturn, 1) := by decide +kernel
theorem dX12_whyNot_58 : decode cX12_whyNot 58 = .ok (.lload_n 1, 1) := by decide +kernel
theorem dX12_whyNot_59 : decode cX12_whyNot 59 = .ok (.ldc2_w 299, 3) := by decide +kernel
theorem dX12_whyNot_62 : decode cX12_whyNot 62 = .ok (.ldc2_w 301, 3) := by decide +kernel
theorem dX12_whyNot_65 : decode cX12_whyNot 65 = .ok (.invokestatic 145, 3) := by decide +kernel
theorem dX12_whyNot_68 : decode cX12_whyNot 68 = .ok (.ifCond .eq 30, 3) := by decide +kernel
theorem dX12_whyNot_71 : decode cX12_whyNot 71 = .ok (.aload_n 0, 1) := by decide +kernel
theorem dX12_whyNot_72 : decode cX12_whyNot 72 = .ok (.lload_n 1, 1) := by decide +kernel
theorem dX12_whyNot_73 : decode cX12_whyNot 73 = .ok (.ldc2_w 299, 3) := by decide +kernel
theorem dX12_whyNot_76 : decode cX12_whyNot 76 = .ok (.lsub, 1) := by decide +kernel
theorem dX12_whyNot_77 : decode cX12_whyNot 77 = .ok (.ldc2_w 295, 3) := by decide +kernel
theorem dX12_whyNot_80 : decode cX12_whyNot 80 = .ok (.ldiv, 1) := by decide +kernel
theorem dX12_whyNot_81 : decode cX12_whyNot 81 = .ok (.lload_n 1, 1) := by decide +kernel
theorem dX12_whyNot_82 : decode cX12_whyNot 82 = .ok (.ldc2_w 295, 3) := by decide +kernel
theorem dX12_whyNot_85 : decode cX12_whyNot 85 = .ok (.lrem, 1) := by decide +kernel
theorem dX12_whyNot_86 : decode cX12_whyNot 86 = .ok (.invokevirtual 280, 3) := by decide +kernel
theorem dX12_whyNot_89 : decode cX12_whyNot 89 = .ok (.ifCond .eq 7, 3) := by decide +kernel
theorem dX12_whyNot_92 : decode cX12_whyNot 92 = .ok (.iconst 0, 1) := by decide +kernel
theorem dX12_whyNot_93 : decode cX12_whyNot 93 = .ok (.goto 4, 3) := by decide +kernel
theorem dX12_whyNot_96 : decode cX12_whyNot 96 = .ok (.iconst 1, 1) := by decide +kernel
theorem dX12_whyNot_97 : decode cX12_whyNot 97 = .ok (.ireturn, 1) := by decide +kernel
theorem dX12_whyNot_98 : decode cX12_whyNot 98 = .ok (.lload_n 1, 1) := by decide +kernel
theorem dX12_whyNot_99 : decode cX12_whyNot 99 = .ok (.ldc2_w 303, 3) := by decide +kernel
theorem dX12_whyNot_102 : decode cX12_whyNot 102 = .ok (.ldc2_w 305, 3) := by decide +kernel
theorem dX12_whyNot_105 : decode cX12_whyNot 105 = .ok (.invokestatic 145, 3) := by decide +kernel
theorem dX12_whyNot_108 : decode cX12_whyNot 108 = .ok (.ifCond .eq 24, 3) := by decide +kernel
theorem dX12_whyNot_111 : decode cX12_whyNot 111 = .ok (.aload_n 0, 1) := by decide +kernel
theorem dX12_whyNot_112 : decode cX12_whyNot 112 = .ok (.lload_n 1, 1) := by decide +kernel
theorem dX12_whyNot_113 : decode cX12_whyNot 113 = .ok (.ldc2_w 303, 3) := by decide +kernel
theorem dX12_whyNot_116 : decode cX12_whyNot 116 = .ok (.lsub, 1) := by decide +kernel
theorem dX12_whyNot_117 : decode cX12_whyNot 117 = .ok (.ldc2_w 295, 3) := by decide +kernel
theorem dX12_whyNot_120 : decode cX12_whyNot 120 = .ok (.ldiv, 1) := by decide +kernel
theorem dX12_whyNot_121 : decode cX12_whyNot 121 = .ok (.lload_n 1, 1) := by decide +kernel
theorem dX12_whyNot_122 : decode cX12_whyNot 122 = .ok (.ldc2_w 295, 3) := by decide +kernel
theorem dX12_whyNot_125 : decode cX12_whyNot 125 = .ok (.lrem, 1) := by decide +kernel
theorem dX12_whyNot_126 : decode cX12_whyNot 126 = .ok (.invokevirtual 288, 3) := by decide +kernel
theorem dX12_whyNot_129 : decode cX12_whyNot 129 = .ok (.goto 4, 3) := by decide +kernel
theorem dX12_whyNot_132 : decode cX12_whyNot 132 = .ok (.iconst 1, 1) := by decide +kernel
theorem dX12_whyNot_133 : decode cX12_whyNot 133 = .ok (.ireturn, 1) := by decide +kernel
def r_whyNot (I : Nat → Nat → Int32) (z : Nat) (v1 : Int64) : Option (Int32) := if (lg_cmp v1 (-1)) = 0 then (some 0) else (if (r_within v1 0 9) = 0 then (if (r_within v1 10 19) = 0 then (if (r_within v1 100 199) = 0 then (if (r_within v1 200 299) = 0 then (some 1) else ((r_whyWine I z ((v1 - 200) / 10) (v1 - v1 / 10 * 10)).bind (fun q6 => let u8 := q6; some u8))) else ((r_areTwo I z ((v1 - 100) / 10) (v1 - v1 / 10 * 10)).bind (fun q9 => let u11 := q9; if u11 = 0 then (some 1) else (some 0)))) else ((r_whySit I z (v1 - 10)).bind (fun q13 => let u15 := q13; some u15))) else ((r_isTune I z v1).bind (fun q16 => let u18 := q16; if u18 = 0 then (some 1) else (some 0))))
theorem c_r_whyNot {l : Launch} {D : va_G} {E : Nat → ClassId} {B : Nat → Prop} {n : Nat} {T : Nat → Option (Nat × Nat)} {I : Nat → Nat → Int32} {J : Nat → Nat → Int64} {P : Nat → Nat → Option Nat} {z : Nat} {v1 : Int64} {r : Int32} (hs_z : isMd T P z) (hf : r_whyNot I z v1 = some r) : Ct l D E B yX12_whyNot cX12_whyNot 3 (some .int) 3 0 0 [.ref z, .long v1] (n, T, I, J, P) (Ret (some (.int r)) (n, T, I, J, P)) := by
  unfold r_whyNot at hf
  refine Ct.ofV (by decide) (Nat.le_of_ble_eq_true rfl) ?_
  refine V.lload_n dX12_whyNot_0 rfl ?_
  refine V.ldc2 dX12_whyNot_1 kc_X12_221 ?_
  refine V.lcmp dX12_whyNot_4 ?_
  refine V.if_ne 10 dX12_whyNot_5 (by decide) (fun c1 => ?_) (fun c1 => ?_)
  · rw [if_neg c1] at hf
    refine V.lload_n dX12_whyNot_10 rfl ?_
    refine V.lconst (v := 0) dX12_whyNot_11 (by decide) ?_
    refine V.ldc2 dX12_whyNot_12 kc_X12_262 ?_
    refine V.ins cs_X12_145 (c_r_within) dX12_whyNot_15 rfl rfl (Nat.le_of_ble_eq_true rfl) (by decide) (by decide) (Nat.le_refl _) (Nat.le_refl _) (fun _ _ hq => ?_)
    obtain ⟨rfl, rfl⟩ := hq
    refine V.if_eq 35 dX12_whyNot_18 (by decide) (fun c2 => ?_) (fun c2 => ?_)
    · rw [if_pos c2] at hf
      refine V.lload_n dX12_whyNot_35 rfl ?_
      refine V.ldc2 dX12_whyNot_36 kc_X12_295 ?_
      refine V.ldc2 dX12_whyNot_39 kc_X12_297 ?_
      refine V.ins cs_X12_145 (c_r_within) dX12_whyNot_42 rfl rfl (Nat.le_of_ble_eq_true rfl) (by decide) (by decide) (Nat.le_refl _) (Nat.le_refl _) (fun _ _ hq => ?_)
      obtain ⟨rfl, rfl⟩ := hq
      refine V.if_eq 58 dX12_whyNot_45 (by decide) (fun c3 => ?_) (fun c3 => ?_)
      · rw [if_pos c3] at hf
        refine V.lload_n dX12_whyNot_58 rfl ?_
        refine V.ldc2 dX12_whyNot_59 kc_X12_299 ?_
        refine V.ldc2 dX12_whyNot_62 kc_X12_301 ?_
        refine V.ins cs_X12_145 (c_r_within) dX12_whyNot_65 rfl rfl (Nat.le_of_ble_eq_true rfl) (by decide) (by decide) (Nat.le_refl _) (Nat.le_refl _) (fun _ _ hq => ?_)
        obtain ⟨rfl, rfl⟩ := hq
        refine V.if_eq 98 dX12_whyNot_68 (by decide) (fun c4 => ?_) (fun c4 => ?_)
        · rw [if_pos c4] at hf
          refine V.lload_n dX12_whyNot_98 rfl ?_
          refine V.ldc2 dX12_whyNot_99 kc_X12_303 ?_
          refine V.ldc2 dX12_whyNot_102 kc_X12_305 ?_
          refine V.ins cs_X12_145 (c_r_within) dX12_whyNot_105 rfl rfl (Nat.le_of_ble_eq_true rfl) (by decide) (by decide) (Nat.le_refl _) (Nat.le_refl _) (fun _ _ hq => ?_)
          obtain ⟨rfl, rfl⟩ := hq
          refine V.if_eq 132 dX12_whyNot_108 (by decide) (fun c5 => ?_) (fun c5 => ?_)
          · rw [if_pos c5] at hf
            refine V.iconst (v := 1) dX12_whyNot_132 (by decide) ?_
            obtain rfl := Option.some.inj hf
            exact V.iret dX12_whyNot_133 rfl (Nat.le_refl _) (Nat.le_refl _) ⟨rfl, rfl⟩
          · rw [if_neg c5] at hf
            refine V.aload_n dX12_whyNot_111 rfl ?_
            refine V.lload_n dX12_whyNot_112 rfl ?_
            refine V.ldc2 dX12_whyNot_113 kc_X12_303 ?_
            refine V.lsub dX12_whyNot_116 ?_
            refine V.ldc2 dX12_whyNot_117 kc_X12_295 ?_
            refine V.ldiv dX12_whyNot_120 (by decide) ?_
            refine V.lload_n dX12_whyNot_121 rfl ?_
            refine V.ldc2 dX12_whyNot_122 kc_X12_295 ?_
            refine V.lrem dX12_whyNot_125 (by decide) ?_
            obtain ⟨u8, hk7, hf⟩ := bnd_some hf
            try dsimp only at hf
            refine V.inv cv_X12_288 (c_r_whyWine hs_z hk7) dX12_whyNot_126 (hs_z.1 0 (12, 0) rfl) (by decide) rfl rfl rfl (Nat.le_of_ble_eq_true rfl) (by decide) (by decide) (Nat.le_refl _) (Nat.le_refl _) (fun _ _ hq => ?_)
            obtain ⟨rfl, rfl⟩ := hq
            refine V.goto 133 dX12_whyNot_129 (by decide) ?_
            obtain rfl := Option.some.inj hf
            exact V.iret dX12_whyNot_133 rfl (Nat.le_refl _) (Nat.le_refl _) ⟨rfl, rfl⟩
        · rw [if_neg c4] at hf
          refine V.aload_n dX12_whyNot_71 rfl ?_
          refine V.lload_n dX12_whyNot_72 rfl ?_
          refine V.ldc2 dX12_whyNot_73 kc_X12_299 ?_
          refine V.lsub dX12_whyNot_76 ?_
          refine V.ldc2 dX12_whyNot_77 kc_X12_295 ?_
          refine V.ldiv dX12_whyNot_80 (by decide) ?_
          refine V.lload_n dX12_whyNot_81 rfl ?_
          refine V.ldc2 dX12_whyNot_82 kc_X12_295 ?_
          refine V.lrem dX12_whyNot_85 (by decide) ?_
          obtain ⟨u11, hk10, hf⟩ := bnd_some hf
          try dsimp only at hf
          refine V.inv cv_X12_280 (c_r_areTwo hs_z hk10) dX12_whyNot_86 (hs_z.1 0 (12, 0) rfl) (by decide) rfl rfl rfl (Nat.le_of_ble_eq_true rfl) (by decide) (by decide) (Nat.le_refl _) (Nat.le_refl _) (fun _ _ hq => ?_)
          obtain ⟨rfl, rfl⟩ := hq
          refine V.if_eq 96 dX12_whyNot_89 (by decide) (fun c12 => ?_) (fun c12 => ?_)
          · rw [if_pos c12] at hf
            refine V.iconst (v := 1) dX12_whyNot_96 (by decide) ?_
            obtain rfl := Option.some.inj hf
            exact V.iret dX12_whyNot_97 rfl (Nat.le_refl _) (Nat.le_refl _) ⟨rfl, rfl⟩
          · rw [if_neg c12] at hf
            refine V.iconst (v := 0) dX12_whyNot_92 (by decide) ?_
            refine V.goto 97 dX12_whyNot_93 (by decide) ?_
            obtain rfl := Option.some.inj hf
            exact V.iret dX12_whyNot_97 rfl (Nat.le_refl _) (Nat.le_refl _) ⟨rfl, rfl⟩
      · rw [if_neg c3] at hf
        refine V.aload_n dX12_whyNot_48 rfl ?_
        refine V.lload_n dX12_whyNot_49 rfl ?_
        refine V.ldc2 dX12_whyNot_50 kc_X12_295 ?_
        refine V.lsub dX12_whyNot_53 ?_
        obtain ⟨u15, hk14, hf⟩ := bnd_some hf
        try dsimp only at hf
        refine V.inv cv_X12_273 (c_r_whySit hs_z hk14) dX12_whyNot_54 (hs_z.1 0 (12, 0) rfl) (by decide) rfl rfl rfl (Nat.le_of_ble_eq_true rfl) (by decide) (by decide) (Nat.le_refl _) (Nat.le_refl _) (fun _ _ hq => ?_)
        obtain ⟨rfl, rfl⟩ := hq
        obtain rfl := Option.some.inj hf
        exact V.iret dX12_whyNot_57 rfl (Nat.le_refl _) (Nat.le_refl _) ⟨rfl, rfl⟩
    · rw [if_neg c2] at hf
      refine V.aload_n dX12_whyNot_21 rfl ?_
      refine V.lload_n dX12_whyNot_22 rfl ?_
      obtain ⟨u18, hk17, hf⟩ := bnd_some hf
      try dsimp only at hf
      refine V.inv cv_X12_248 (c_r_isTune hs_z hk17) dX12_whyNot_23 (hs_z.1 0 (12, 0) rfl) (by decide) rfl rfl rfl (Nat.le_of_ble_eq_true rfl) (by decide) (by decide) (Nat.le_refl _) (Nat.le_refl _) (fun _ _ hq => ?_)
      obtain ⟨rfl, rfl⟩ := hq
      refine V.if_eq 33 dX12_whyNot_26 (by decide) (fun c19 => ?_) (fun c19 => ?_)
      · rw [if_pos c19] at hf
        refine V.iconst (v := 1) dX12_whyNot_33 (by decide) ?_
        obtain rfl := Option.some.inj hf
        exact V.iret dX12_whyNot_34 rfl (Nat.le_refl _) (Nat.le_refl _) ⟨rfl, rfl⟩
      · rw [if_neg c19] at hf
        refine V.iconst (v := 0) dX12_whyNot_29 (by decide) ?_
        refine V.goto 34 dX12_whyNot_30 (by decide) ?_
        obtain rfl := Option.some.inj hf
        exact V.iret dX12_whyNot_34 rfl (Nat.le_refl _) (Nat.le_refl _) ⟨rfl, rfl⟩
  · rw [if_pos c1] at hf
    refine V.iconst (v := 0) dX12_whyNot_8 (by decide) ?_
    obtain rfl := Option.some.inj hf
    exact V.iret dX12_whyNot_9 rfl (Nat.le_refl _) (Nat.le_refl _) ⟨rfl, rfl⟩
theorem dX12_does_0 : decode cX12_does 0 = .ok (.iload_n 1, 1) := by decide +kernel
theorem dX12_does_1 : decode cX12_does 1 = .ok (.iconst (-1), 1) := by decide +kernel
theorem dX12_does_2 : decode cX12_does 2 = .ok (.if_icmp .ne 10, 3) := by decide +kernel
theorem dX12_does_5 : decode cX12_does 5 = .ok (.aload_n 0, 1) := by decide +kernel
theorem dX12_does_6 : decode cX12_does 6 = .ok (.invokevirtual 207, 3) := by decide +kernel
theorem dX12_does_9 : decode cX12_does 9 = .ok (.goto 76, 3) := by decide +kernel
theorem dX12_does_12 : decode cX12_does 12 = .ok (.iload_n 1, 1) := by decide +kernel
theorem dX12_does_13 : decode cX12_does 13 = .ok (.bipush 10, 2) := by decide +kernel
theorem dX12_does_15 : decode cX12_does 15 = .ok (.if_icmp .ge 12, 3) := by decide +kernel
theorem dX12_does_18 : decode cX12_does 18 = .ok (.aload_n 0, 1) := by decide +kernel
theorem dX12_does_19 : decode cX12_does 19 = .ok (.iload_n 1, 1) := by decide +kernel
theorem dX12_does_20 : decode cX12_does 20 = .ok (.invokevirtual 267, 3) := by decide +kernel
theorem dX12_does_23 : decode cX12_does 23 = .ok (.pop, 1) := by decide +kernel
theorem dX12_does_24 : decode cX12_does 24 = .ok (.goto 61, 3) := by decide +kernel
theorem dX12_does_27 : decode cX12_does 27 = .ok (.iload_n 1, 1) := by decide +kernel
theorem dX12_does_28 : decode cX12_does 28 = .ok (.bipush 100, 2) := by decide +kernel
theorem dX12_does_30 : decode cX12_does 30 = .ok (.if_icmp .ge 14, 3) := by decide +kernel
theorem dX12_does_33 : decode cX12_does 33 = .ok (.aload_n 0, 1) := by decide +kernel
theorem dX12_does_34 : decode cX12_does 34 = .ok (.iload_n 1, 1) := by decide +kernel
theorem dX12_does_35 : decode cX12_does 35 = .ok (.bipush 10, 2) := by decide +kernel
theorem dX12_does_37 : decode cX12_does 37 = .ok (.isub, 1) := by decide +kernel
theorem dX12_does_38 : decode cX12_does 38 = .ok (.invokevirtual 277, 3) := by decide +kernel
theorem dX12_does_41 : decode cX12_does 41 = .ok (.goto 44, 3) := by decide +kernel
theorem dX12_does_44 : decode cX12_does 44 = .ok (.iload_n 1, 1) := by decide +kernel
theorem dX12_does_45 : decode cX12_does 45 = .ok (.sipush 200, 3) := by decide +kernel
theorem dX12_does_48 : decode cX12_does 48 = .ok (.if_icmp .ge 21, 3) := by decide +kernel
theorem dX12_does_51 : decode cX12_does 51 = .ok (.aload_n 0, 1) := by decide +kernel
theorem dX12_does_52 : decode cX12_does 52 = .ok (.iload_n 1, 1) := by decide +kernel
theorem dX12_does_53 : decode cX12_does 53 = .ok (.bipush 100, 2) := by decide +kernel
theorem dX12_does_55 : decode cX12_does 55 = .ok (.isub, 1) := by decide +kernel
theorem dX12_does_56 : decode cX12_does 56 = .ok (.bipush 10, 2) := by decide +kernel
theorem dX12_does_58 : decode cX12_does 58 = .ok (.idiv, 1) := by decide +kernel
theorem dX12_does_59 : decode cX12_does 59 = .ok (.iload_n 1, 1) := by decide +kernel
theorem dX12_does_60 : decode cX12_does 60 = .ok (.bipush 10, 2) := by decide +kernel
theorem dX12_does_62 : decode cX12_does 62 = .ok (.irem, 1) := by decide +kernel
theorem dX12_does_63 : decode cX12_does 63 = .ok (.invokevirtual 284, 3) := by decide +kernel
theorem dX12_does_66 : decode cX12_does 66 = .ok (.goto 19, 3) := by decide +kernel
theorem dX12_does_69 : decode cX12_does 69 = .ok (.aload_n 0, 1) := by decide +kernel
theorem dX12_does_70 : decode cX12_does 70 = .ok (.iload_n 1, 1) := by decide +kernel
theorem dX12_does_71 : decode cX12_does 71 = .ok (.sipush 200, 3) := by decide +kernel
theorem dX12_does_74 : decode cX12_does 74 = .ok (.isub, 1) := by decide +kernel
theorem dX12_does_75 : decode cX12_does 75 = .ok (.bipush 10, 2) := by decide +kernel
theorem dX12_does_77 : decode cX12_does 77 = .ok (.idiv, 1) := by decide +kernel
theorem dX12_does_78 : decode cX12_does 78 = .ok (.iload_n 1, 1) := by decide +kernel
theorem dX12_does_79 : decode cX12_does 79 = .ok (.bipush 10, 2) := by decide +kernel
theorem dX12_does_81 : decode cX12_does 81 = .ok (.irem, 1) := by decide +kernel
theorem dX12_does_82 : decode cX12_does 82 = .ok (.invokevirtual 292, 3) := by decide +kernel
theorem dX12_does_85 : decode cX12_does 85 = .ok (.return_, 1) := by decide +kernel
def r_does (F : Nat) (I : Nat → Nat → Int32) (z : Nat) (v1 : Int32) : Option ((Nat → Nat → Int32)) := if v1 = (-1) then ((r_evenings F I z).bind (fun q18 => let I20 := q18; some I20)) else (if 10 ≤ v1 then (if 100 ≤ v1 then (if 200 ≤ v1 then ((r_drinks I z ((v1 - 200) / 10) (v1 - v1 / 10 * 10)).bind (fun q5 => let I7 := q5; some I7)) else ((r_changes I z ((v1 - 100) / 10) (v1 - v1 / 10 * 10)).bind (fun q8 => let I10 := q8; some I10))) else ((r_sitsOwn I z (v1 - 10)).bind (fun q11 => let I13 := q11; some I13))) else ((r_plays F I z v1).bind (fun q14 => let u16 := q14.1; let I17 := q14.2; some I17)))
theorem c_r_does {l : Launch} {D : va_G} {E : Nat → ClassId} {B : Nat → Prop} {n F : Nat} {T : Nat → Option (Nat × Nat)} {I : Nat → Nat → Int32} {J : Nat → Nat → Int64} {P : Nat → Nat → Option Nat} {z : Nat} {v1 : Int32} {r : (Nat → Nat → Int32)} (hs_z : isMd T P z) (hf : r_does F I z v1 = some r) : Ct l D E B yX12_does cX12_does 2 none 6 0 0 [.ref z, .int v1] (n, T, I, J, P) (Ret (none) (n, T, r, J, P)) := by
  unfold r_does at hf
  refine Ct.ofV (by decide) (Nat.le_of_ble_eq_true rfl) ?_
  refine V.iload_n dX12_does_0 rfl ?_
  refine V.iconst (v := -1) dX12_does_1 (by decide) ?_
  refine V.icmp_ne 12 dX12_does_2 (by decide) (fun c1 => ?_) (fun c1 => ?_)
  · rw [if_neg c1] at hf
    refine V.iload_n dX12_does_12 rfl ?_
    refine V.bipush (v := 10) dX12_does_13 (by decide) ?_
    refine V.icmp_ge 27 dX12_does_15 (by decide) (fun c2 => ?_) (fun c2 => ?_)
    · rw [if_pos c2] at hf
      refine V.iload_n dX12_does_27 rfl ?_
      refine V.bipush (v := 100) dX12_does_28 (by decide) ?_
      refine V.icmp_ge 44 dX12_does_30 (by decide) (fun c3 => ?_) (fun c3 => ?_)
      · rw [if_pos c3] at hf
        refine V.iload_n dX12_does_44 rfl ?_
        refine V.sipush (v := 200) dX12_does_45 (by decide) ?_
        refine V.icmp_ge 69 dX12_does_48 (by decide) (fun c4 => ?_) (fun c4 => ?_)
        · rw [if_pos c4] at hf
          refine V.aload_n dX12_does_69 rfl ?_
          refine V.iload_n dX12_does_70 rfl ?_
          refine V.sipush (v := 200) dX12_does_71 (by decide) ?_
          refine V.isub dX12_does_74 ?_
          refine V.bipush (v := 10) dX12_does_75 (by decide) ?_
          refine V.idiv dX12_does_77 (by decide) ?_
          refine V.iload_n dX12_does_78 rfl ?_
          refine V.bipush (v := 10) dX12_does_79 (by decide) ?_
          refine V.irem dX12_does_81 (by decide) ?_
          obtain ⟨I7, hk6, hf⟩ := bnd_some hf
          try dsimp only at hf
          refine V.inv cv_X12_292 (c_r_drinks hs_z hk6) dX12_does_82 (hs_z.1 0 (12, 0) rfl) (by decide) rfl rfl rfl (Nat.le_of_ble_eq_true rfl) (by decide) (by decide) (Nat.le_refl _) (Nat.le_refl _) (fun _ _ hq => ?_)
          obtain ⟨rfl, rfl⟩ := hq
          obtain rfl := Option.some.inj hf
          exact V.vret dX12_does_85 rfl (Nat.le_refl _) (Nat.le_refl _) ⟨rfl, rfl⟩
        · rw [if_neg c4] at hf
          refine V.aload_n dX12_does_51 rfl ?_
          refine V.iload_n dX12_does_52 rfl ?_
          refine V.bipush (v := 100) dX12_does_53 (by decide) ?_
          refine V.isub dX12_does_55 ?_
          refine V.bipush (v := 10) dX12_does_56 (by decide) ?_
          refine V.idiv dX12_does_58 (by decide) ?_
          refine V.iload_n dX12_does_59 rfl ?_
          refine V.bipush (v := 10) dX12_does_60 (by decide) ?_
          refine V.irem dX12_does_62 (by decide) ?_
          obtain ⟨I10, hk9, hf⟩ := bnd_some hf
          try dsimp only at hf
          refine V.inv cv_X12_284 (c_r_changes hs_z hk9) dX12_does_63 (hs_z.1 0 (12, 0) rfl) (by decide) rfl rfl rfl (Nat.le_of_ble_eq_true rfl) (by decide) (by decide) (Nat.le_refl _) (Nat.le_refl _) (fun _ _ hq => ?_)
          obtain ⟨rfl, rfl⟩ := hq
          refine V.goto 85 dX12_does_66 (by decide) ?_
          obtain rfl := Option.some.inj hf
          exact V.vret dX12_does_85 rfl (Nat.le_refl _) (Nat.le_refl _) ⟨rfl, rfl⟩
      · rw [if_neg c3] at hf
        refine V.aload_n dX12_does_33 rfl ?_
        refine V.iload_n dX12_does_34 rfl ?_
        refine V.bipush (v := 10) dX12_does_35 (by decide) ?_
        refine V.isub dX12_does_37 ?_
        obtain ⟨I13, hk12, hf⟩ := bnd_some hf
        try dsimp only at hf
        refine V.inv cv_X12_277 (c_r_sitsOwn hs_z hk12) dX12_does_38 (hs_z.1 0 (12, 0) rfl) (by decide) rfl rfl rfl (Nat.le_of_ble_eq_true rfl) (by decide) (by decide) (Nat.le_refl _) (Nat.le_refl _) (fun _ _ hq => ?_)
        obtain ⟨rfl, rfl⟩ := hq
        refine V.goto 85 dX12_does_41 (by decide) ?_
        obtain rfl := Option.some.inj hf
        exact V.vret dX12_does_85 rfl (Nat.le_refl _) (Nat.le_refl _) ⟨rfl, rfl⟩
    · rw [if_neg c2] at hf
      refine V.aload_n dX12_does_18 rfl ?_
      refine V.iload_n dX12_does_19 rfl ?_
      obtain ⟨⟨u16, I17⟩, hk15, hf⟩ := bnd_some hf
      try dsimp only at hf
      refine V.inv cv_X12_267 (c_r_plays hs_z hk15) dX12_does_20 (hs_z.1 0 (12, 0) rfl) (by decide) rfl rfl rfl (Nat.le_of_ble_eq_true rfl) (by decide) (by decide) (Nat.le_refl _) (Nat.le_refl _) (fun _ _ hq => ?_)
      obtain ⟨rfl, rfl⟩ := hq
      try dsimp only
      refine V.pop dX12_does_23 rfl ?_
      refine V.goto 85 dX12_does_24 (by decide) ?_
      obtain rfl := Option.some.inj hf
      exact V.vret dX12_does_85 rfl (Nat.le_refl _) (Nat.le_refl _) ⟨rfl, rfl⟩
  · rw [if_pos c1] at hf
    refine V.aload_n dX12_does_5 rfl ?_
    obtain ⟨I20, hk19, hf⟩ := bnd_some hf
    try dsimp only at hf
    refine V.inv cv_X12_207 (c_r_evenings hs_z hk19) dX12_does_6 (hs_z.1 0 (12, 0) rfl) (by decide) rfl rfl rfl (Nat.le_of_ble_eq_true rfl) (by decide) (by decide) (Nat.le_refl _) (Nat.le_refl _) (fun _ _ hq => ?_)
    obtain ⟨rfl, rfl⟩ := hq
    refine V.goto 85 dX12_does_9 (by decide) ?_
    obtain rfl := Option.some.inj hf
    exact V.vret dX12_does_85 rfl (Nat.le_refl _) (Nat.le_refl _) ⟨rfl, rfl⟩
theorem dX12_tells_0 : decode cX12_tells 0 = .ok (.aload_n 0, 1) := by decide +kernel
theorem dX12_tells_1 : decode cX12_tells 1 = .ok (.iconst 0, 1) := by decide +kernel
theorem dX12_tells_2 : decode cX12_tells 2 = .ok (.putfield 307, 3) := by decide +kernel
theorem dX12_tells_5 : decode cX12_tells 5 = .ok (.iconst 0, 1) := by decide +kernel
theorem dX12_tells_6 : decode cX12_tells 6 = .ok (.istore_n 2, 1) := by decide +kernel
theorem dX12_tells_7 : decode cX12_tells 7 = .ok (.iload_n 2, 1) := by decide +kernel
theorem dX12_tells_8 : decode cX12_tells 8 = .ok (.aload_n 0, 1) := by decide +kernel
theorem dX12_tells_9 : decode cX12_tells 9 = .ok (.getfield 73, 3) := by decide +kernel
theorem dX12_tells_12 : decode cX12_tells 12 = .ok (.iload_n 1, 1) := by decide +kernel
theorem dX12_tells_13 : decode cX12_tells 13 = .ok (.iaload, 1) := by decide +kernel
theorem dX12_tells_14 : decode cX12_tells 14 = .ok (.if_icmp .ge 53, 3) := by decide +kernel
theorem dX12_tells_17 : decode cX12_tells 17 = .ok (.aload_n 0, 1) := by decide +kernel
theorem dX12_tells_18 : decode cX12_tells 18 = .ok (.aload_n 0, 1) := by decide +kernel
theorem dX12_tells_19 : decode cX12_tells 19 = .ok (.aload_n 0, 1) := by decide +kernel
theorem dX12_tells_20 : decode cX12_tells 20 = .ok (.getfield 76, 3) := by decide +kernel
theorem dX12_tells_23 : decode cX12_tells 23 = .ok (.bipush 40, 2) := by decide +kernel
theorem dX12_tells_25 : decode cX12_tells 25 = .ok (.iload_n 1, 1) := by decide +kernel
theorem dX12_tells_26 : decode cX12_tells 26 = .ok (.imul, 1) := by decide +kernel
theorem dX12_tells_27 : decode cX12_tells 27 = .ok (.iload_n 2, 1) := by decide +kernel
theorem dX12_tells_28 : decode cX12_tells 28 = .ok (.iadd, 1) := by decide +kernel
theorem dX12_tells_29 : decode cX12_tells 29 = .ok (.laload, 1) := by decide +kernel
theorem dX12_tells_30 : decode cX12_tells 30 = .ok (.invokevirtual 310, 3) := by decide +kernel
theorem dX12_tells_33 : decode cX12_tells 33 = .ok (.putfield 307, 3) := by decide +kernel
theorem dX12_tells_36 : decode cX12_tells 36 = .ok (.aload_n 0, 1) := by decide +kernel
theorem dX12_tells_37 : decode cX12_tells 37 = .ok (.getfield 307, 3) := by decide +kernel
theorem dX12_tells_40 : decode cX12_tells 40 = .ok (.ifCond .eq 5, 3) := by decide +kernel
theorem dX12_tells_43 : decode cX12_tells 43 = .ok (.iload_n 2, 1) := by decide +kernel
theorem dX12_tells_44 : decode cX12_tells 44 = .ok (.ireturn, 1) := by decide +kernel
theorem dX12_tells_45 : decode cX12_tells 45 = .ok (.aload_n 0, 1) := by decide +kernel
theorem dX12_tells_46 : decode cX12_tells 46 = .ok (.aload_n 0, 1) := by decide +kernel
theorem dX12_tells_47 : decode cX12_tells 47 = .ok (.getfield 76, 3) := by decide +kernel
theorem dX12_tells_50 : decode cX12_tells 50 = .ok (.bipush 40, 2) := by decide +kernel
theorem dX12_tells_52 : decode cX12_tells 52 = .ok (.iload_n 1, 1) := by decide +kernel
theorem dX12_tells_53 : decode cX12_tells 53 = .ok (.imul, 1) := by decide +kernel
theorem dX12_tells_54 : decode cX12_tells 54 = .ok (.iload_n 2, 1) := by decide +kernel
theorem dX12_tells_55 : decode cX12_tells 55 = .ok (.iadd, 1) := by decide +kernel
theorem dX12_tells_56 : decode cX12_tells 56 = .ok (.laload, 1) := by decide +kernel
theorem dX12_tells_57 : decode cX12_tells 57 = .ok (.l2i, 1) := by decide +kernel
theorem dX12_tells_58 : decode cX12_tells 58 = .ok (.invokevirtual 313, 3) := by decide +kernel
theorem dX12_tells_61 : decode cX12_tells 61 = .ok (.iinc 2 1, 3) := by decide +kernel
theorem dX12_tells_64 : decode cX12_tells 64 = .ok (.goto (-57), 3) := by decide +kernel
theorem dX12_tells_67 : decode cX12_tells 67 = .ok (.aload_n 0, 1) := by decide +kernel
theorem dX12_tells_68 : decode cX12_tells 68 = .ok (.getfield 73, 3) := by decide +kernel
theorem dX12_tells_71 : decode cX12_tells 71 = .ok (.iload_n 1, 1) := by decide +kernel
theorem dX12_tells_72 : decode cX12_tells 72 = .ok (.iaload, 1) := by decide +kernel
theorem dX12_tells_73 : decode cX12_tells 73 = .ok (.ireturn, 1) := by decide +kernel
def r_tells_7 (F : Nat) (J : Nat → Nat → Int64) (z : Nat) (g1 : Int32) : Nat → Int32 → (Nat → Nat → Int32) → Option ((Int32 × (Nat → Nat → Int32)) ⊕ (Int32 × (Nat → Nat → Int32)))
  | 0, _, _ => none
  | k + 1, l2, I => chk g1 4 (if (I (z + 19) (Int32.toNatClampNeg g1)) ≤ l2 then (some (.inr (l2, I))) else (chk ((40 * g1) + l2) 160 ((r_whyNot I z (J (z + 20) (Int32.toNatClampNeg ((40 * g1) + l2)))).bind (fun q6 => let u8 := q6; let I9 := uI I z 20 u8; if (I9 z 20) = 0 then ((r_does F I9 z (Int64.toInt32 (J (z + 20) (Int32.toNatClampNeg ((40 * g1) + l2))))).bind (fun q12 => let I14 := q12; r_tells_7 F J z g1 k (l2 + 1) I14)) else (some (.inl (l2, I9)))))))
def r_tells (F : Nat) (I : Nat → Nat → Int32) (J : Nat → Nat → Int64) (z : Nat) (v1 : Int32) : Option (Int32 × (Nat → Nat → Int32)) := let I1 := uI I z 20 0; (r_tells_7 F J z v1 F 0 I1).bind (fun q15 => match q15 with | .inl r0 => some r0 | .inr q0 => let m17 := q0.1; let I18 := q0.2; chk v1 4 (some ((I18 (z + 19) (Int32.toNatClampNeg v1)), I18)))
theorem l_r_tells_7 {l : Launch} {D : va_G} {E : Nat → ClassId} {B : Nat → Prop} {n F : Nat} {Q : Option Value → HT → Prop} {T : Nat → Option (Nat × Nat)} {J : Nat → Nat → Int64} {P : Nat → Nat → Option Nat} {z : Nat} {g1 : Int32} (hs_z : isMd T P z)  (r : (Int32 × (Nat → Nat → Int32)) ⊕ (Int32 × (Nat → Nat → Int32))) : ∀ (k : Nat) (l2 : Int32) (I : (Nat → Nat → Int32)), r_tells_7 F J z g1 k l2 I = some r → (match r with | .inl r => Q (some (.int r.1)) (n, T, r.2, J, P) | .inr r => V l D E B yX12_tells cX12_tells 3 (some .int) 7 0 0 Q 0 0 (n, T, r.2, J, P) 67 [(0, some (.ref z)), (1, some (.int g1)), (2, some (.int (r.1)))] []) → V l D E B yX12_tells cX12_tells 3 (some .int) 7 0 0 Q 0 0 (n, T, I, J, P) 7 [(0, some (.ref z)), (1, some (.int g1)), (2, some (.int l2))] [] := by
  intro k
  induction k with
  | zero =>
    intro l2 I hf hk
    cases hf
  | succ k ih =>
    intro l2 I hf hk
    unfold r_tells_7 at hf
    refine V.iload_n dX12_tells_7 rfl ?_
    refine V.aload_n dX12_tells_8 rfl ?_
    refine V.getr fl_X12_73 dX12_tells_9 (hs_z.1 0 (12, 0) rfl) (hs_z.2 0 34 19 rfl) (by decide) rfl ?_
    refine V.iload_n dX12_tells_12 rfl ?_
    obtain ⟨hb3, hf⟩ := chk_some hf
    refine V.iald dX12_tells_13 (hs_z.1 19 (20, 4) rfl) hb3 ?_
    refine V.icmp_ge 67 dX12_tells_14 (by decide) (fun c4 => ?_) (fun c4 => ?_)
    · rw [if_pos c4] at hf
      obtain rfl := Option.some.inj hf
      exact V.lo [(0, some (.ref z)), (1, some (.int g1)), (2, some (.int l2))] (by simp only [Subs]; repeat' first | exact trivial | constructor | rfl) hk
    · rw [if_neg c4] at hf
      refine V.aload_n dX12_tells_17 rfl ?_
      refine V.aload_n dX12_tells_18 rfl ?_
      refine V.aload_n dX12_tells_19 rfl ?_
      refine V.getr fl_X12_76 dX12_tells_20 (hs_z.1 0 (12, 0) rfl) (hs_z.2 0 35 20 rfl) (by decide) rfl ?_
      refine V.bipush (v := 40) dX12_tells_23 (by decide) ?_
      refine V.iload_n dX12_tells_25 rfl ?_
      refine V.imul dX12_tells_26 ?_
      refine V.iload_n dX12_tells_27 rfl ?_
      refine V.iadd dX12_tells_28 ?_
      obtain ⟨hb5, hf⟩ := chk_some hf
      refine V.lald dX12_tells_29 (hs_z.1 20 (22, 160) rfl) hb5 ?_
      obtain ⟨u8, hk7, hf⟩ := bnd_some hf
      try dsimp only at hf
      refine V.inv cv_X12_310 (c_r_whyNot hs_z hk7) dX12_tells_30 (hs_z.1 0 (12, 0) rfl) (by decide) rfl rfl rfl (Nat.le_of_ble_eq_true rfl) (by decide) (by decide) (Nat.le_refl _) (Nat.le_refl _) (fun _ _ hq => ?_)
      obtain ⟨rfl, rfl⟩ := hq
      refine V.putiE fl_X12_307 dX12_tells_33 (hs_z.1 0 (12, 0) rfl) (by decide) (fun h => by cases h) rfl rfl rfl (Nat.le_of_ble_eq_true rfl) (fun I9 e10 => ?_)
      rw [← e10] at hf
      try dsimp only at hf
      clear e10
      refine V.aload_n dX12_tells_36 rfl ?_
      refine V.getf fl_X12_307 dX12_tells_37 (hs_z.1 0 (12, 0) rfl) (by decide) rfl ?_
      refine V.if_eq 45 dX12_tells_40 (by decide) (fun c11 => ?_) (fun c11 => ?_)
      · rw [if_pos c11] at hf
        refine V.aload_n dX12_tells_45 rfl ?_
        refine V.aload_n dX12_tells_46 rfl ?_
        refine V.getr fl_X12_76 dX12_tells_47 (hs_z.1 0 (12, 0) rfl) (hs_z.2 0 35 20 rfl) (by decide) rfl ?_
        refine V.bipush (v := 40) dX12_tells_50 (by decide) ?_
        refine V.iload_n dX12_tells_52 rfl ?_
        refine V.imul dX12_tells_53 ?_
        refine V.iload_n dX12_tells_54 rfl ?_
        refine V.iadd dX12_tells_55 ?_
        refine V.lald dX12_tells_56 (hs_z.1 20 (22, 160) rfl) hb5 ?_
        refine V.l2i dX12_tells_57 ?_
        obtain ⟨I14, hk13, hf⟩ := bnd_some hf
        try dsimp only at hf
        refine V.inv cv_X12_313 (c_r_does hs_z hk13) dX12_tells_58 (hs_z.1 0 (12, 0) rfl) (by decide) rfl rfl rfl (Nat.le_of_ble_eq_true rfl) (by decide) (by decide) (Nat.le_refl _) (Nat.le_refl _) (fun _ _ hq => ?_)
        obtain ⟨rfl, rfl⟩ := hq
        refine V.iinc (v := (l2 + 1)) dX12_tells_61 rfl rfl (by first | exact rfl | exact trivial) ?_
        refine V.goto 7 dX12_tells_64 (by decide) ?_
        exact V.lo [(0, some (.ref z)), (1, some (.int g1)), (2, some (.int (l2 + 1)))] (by simp only [Subs]; repeat' first | exact trivial | constructor | rfl) (ih _ _ hf hk)
      · rw [if_neg c11] at hf
        refine V.iload_n dX12_tells_43 rfl ?_
        obtain rfl := Option.some.inj hf
        exact V.iret dX12_tells_44 rfl (Nat.le_refl _) (Nat.le_refl _) hk
theorem c_r_tells {l : Launch} {D : va_G} {E : Nat → ClassId} {B : Nat → Prop} {n F : Nat} {T : Nat → Option (Nat × Nat)} {I : Nat → Nat → Int32} {J : Nat → Nat → Int64} {P : Nat → Nat → Option Nat} {z : Nat} {v1 : Int32} {r : Int32 × (Nat → Nat → Int32)} (hs_z : isMd T P z) (hf : r_tells F I J z v1 = some r) : Ct l D E B yX12_tells cX12_tells 3 (some .int) 7 0 0 [.ref z, .int v1] (n, T, I, J, P) (Ret (some (.int r.1)) (n, T, r.2, J, P)) := by
  unfold r_tells at hf
  refine Ct.ofV (by decide) (Nat.le_of_ble_eq_true rfl) ?_
  refine V.aload_n dX12_tells_0 rfl ?_
  refine V.iconst (v := 0) dX12_tells_1 (by decide) ?_
  refine V.putiE fl_X12_307 dX12_tells_2 (hs_z.1 0 (12, 0) rfl) (by decide) (fun h => by cases h) rfl rfl rfl (Nat.le_of_ble_eq_true rfl) (fun I1 e2 => ?_)
  rw [← e2] at hf
  try dsimp only at hf
  clear e2
  refine V.iconst (v := 0) dX12_tells_5 (by decide) ?_
  refine V.istore_n dX12_tells_6 rfl (by decide) (by first | exact rfl | exact trivial) ?_
  obtain ⟨q15, hk16, hf⟩ := bnd_some hf
  refine V.lo [(0, some (.ref z)), (1, some (.int v1)), (2, some (.int 0))] (by simp only [Subs]; repeat' first | exact trivial | constructor | rfl) (l_r_tells_7 hs_z q15 F _ _ hk16 ?_)
  rcases q15 with r0 | ⟨m17, I18⟩
  · try dsimp only at hf ⊢
    obtain rfl := Option.some.inj hf
    exact ⟨rfl, rfl⟩
  · try dsimp only at hf ⊢
    refine V.aload_n dX12_tells_67 rfl ?_
    refine V.getr fl_X12_73 dX12_tells_68 (hs_z.1 0 (12, 0) rfl) (hs_z.2 0 34 19 rfl) (by decide) rfl ?_
    refine V.iload_n dX12_tells_71 rfl ?_
    obtain ⟨hb19, hf⟩ := chk_some hf
    refine V.iald dX12_tells_72 (hs_z.1 19 (20, 4) rfl) hb19 ?_
    obtain rfl := Option.some.inj hf
    exact V.iret dX12_tells_73 rfl (Nat.le_refl _) (Nat.le_refl _) ⟨rfl, rfl⟩
theorem dX12_noTray_0 : decode cX12_noTray 0 = .ok (.iload_n 1, 1) := by decide +kernel
theorem dX12_noTray_1 : decode cX12_noTray 1 = .ok (.i2l, 1) := by decide +kernel
theorem dX12_noTray_2 : decode cX12_noTray 2 = .ok (.lconst 0, 1) := by decide +kernel
theorem dX12_noTray_3 : decode cX12_noTray 3 = .ok (.ldc2_w 316, 3) := by decide +kernel
theorem dX12_noTray_6 : decode cX12_noTray 6 = .ok (.invokestatic 145, 3) := by decide +kernel
theorem dX12_noTray_9 : decode cX12_noTray 9 = .ok (.ifCond .ne 8, 3) := by decide +kernel
theorem dX12_noTray_12 : decode cX12_noTray 12 = .ok (.bipush (-2), 2) := by decide +kernel
theorem dX12_noTray_14 : decode cX12_noTray 14 = .ok (.goto 19, 3) := by decide +kernel
theorem dX12_noTray_17 : decode cX12_noTray 17 = .ok (.aload_n 0, 1) := by decide +kernel
theorem dX12_noTray_18 : decode cX12_noTray 18 = .ok (.getfield 70, 3) := by decide +kernel
theorem dX12_noTray_21 : decode cX12_noTray 21 = .ok (.iload_n 1, 1) := by decide +kernel
theorem dX12_noTray_22 : decode cX12_noTray 22 = .ok (.iaload, 1) := by decide +kernel
theorem dX12_noTray_23 : decode cX12_noTray 23 = .ok (.iconst (-1), 1) := by decide +kernel
theorem dX12_noTray_24 : decode cX12_noTray 24 = .ok (.if_icmp .ne 8, 3) := by decide +kernel
theorem dX12_noTray_27 : decode cX12_noTray 27 = .ok (.bipush (-6), 2) := by decide +kernel
theorem dX12_noTray_29 : decode cX12_noTray 29 = .ok (.goto 4, 3) := by decide +kernel
theorem dX12_noTray_32 : decode cX12_noTray 32 = .ok (.iconst 0, 1) := by decide +kernel
theorem dX12_noTray_33 : decode cX12_noTray 33 = .ok (.ireturn, 1) := by decide +kernel
def r_noTray (I : Nat → Nat → Int32) (z : Nat) (v1 : Int32) : Option (Int32) := if (r_within (Int32.toInt64 v1) 0 3) = 0 then (some (-2)) else (chk v1 4 (if (I (z + 18) (Int32.toNatClampNeg v1)) = (-1) then (some (-6)) else (some 0)))
theorem c_r_noTray {l : Launch} {D : va_G} {E : Nat → ClassId} {B : Nat → Prop} {n : Nat} {T : Nat → Option (Nat × Nat)} {I : Nat → Nat → Int32} {J : Nat → Nat → Int64} {P : Nat → Nat → Option Nat} {z : Nat} {v1 : Int32} {r : Int32} (hs_z : isMd T P z) (hf : r_noTray I z v1 = some r) : Ct l D E B yX12_noTray cX12_noTray 2 (some .int) 1 0 0 [.ref z, .int v1] (n, T, I, J, P) (Ret (some (.int r)) (n, T, I, J, P)) := by
  unfold r_noTray at hf
  refine Ct.ofV (by decide) (Nat.le_of_ble_eq_true rfl) ?_
  refine V.iload_n dX12_noTray_0 rfl ?_
  refine V.i2l dX12_noTray_1 ?_
  refine V.lconst (v := 0) dX12_noTray_2 (by decide) ?_
  refine V.ldc2 dX12_noTray_3 kc_X12_316 ?_
  refine V.ins cs_X12_145 (c_r_within) dX12_noTray_6 rfl rfl (Nat.le_of_ble_eq_true rfl) (by decide) (by decide) (Nat.le_refl _) (Nat.le_refl _) (fun _ _ hq => ?_)
  obtain ⟨rfl, rfl⟩ := hq
  refine V.if_ne 17 dX12_noTray_9 (by decide) (fun c1 => ?_) (fun c1 => ?_)
  · rw [if_neg c1] at hf
    refine V.aload_n dX12_noTray_17 rfl ?_
    refine V.getr fl_X12_70 dX12_noTray_18 (hs_z.1 0 (12, 0) rfl) (hs_z.2 0 33 18 rfl) (by decide) rfl ?_
    refine V.iload_n dX12_noTray_21 rfl ?_
    obtain ⟨hb2, hf⟩ := chk_some hf
    refine V.iald dX12_noTray_22 (hs_z.1 18 (20, 4) rfl) hb2 ?_
    refine V.iconst (v := -1) dX12_noTray_23 (by decide) ?_
    refine V.icmp_ne 32 dX12_noTray_24 (by decide) (fun c3 => ?_) (fun c3 => ?_)
    · rw [if_neg c3] at hf
      refine V.iconst (v := 0) dX12_noTray_32 (by decide) ?_
      obtain rfl := Option.some.inj hf
      exact V.iret dX12_noTray_33 rfl (Nat.le_refl _) (Nat.le_refl _) ⟨rfl, rfl⟩
    · rw [if_pos c3] at hf
      refine V.bipush (v := -6) dX12_noTray_27 (by decide) ?_
      refine V.goto 33 dX12_noTray_29 (by decide) ?_
      obtain rfl := Option.some.inj hf
      exact V.iret dX12_noTray_33 rfl (Nat.le_refl _) (Nat.le_refl _) ⟨rfl, rfl⟩
  · rw [if_pos c1] at hf
    refine V.bipush (v := -2) dX12_noTray_12 (by decide) ?_
    refine V.goto 33 dX12_noTray_14 (by decide) ?_
    obtain rfl := Option.some.inj hf
    exact V.iret dX12_noTray_33 rfl (Nat.le_refl _) (Nat.le_refl _) ⟨rfl, rfl⟩
theorem dX12_judge_0 : decode cX12_judge 0 = .ok (.aload_n 0, 1) := by decide +kernel
theorem dX12_judge_1 : decode cX12_judge 1 = .ok (.iconst 0, 1) := by decide +kernel
theorem dX12_judge_2 : decode cX12_judge 2 = .ok (.putfield 1, 3) := by decide +kernel
theorem dX12_judge_5 : decode cX12_judge 5 = .ok (.iload_n 2, 1) := by decide +kernel
theorem dX12_judge_6 : decode cX12_judge 6 = .ok (.i2l, 1) := by decide +kernel
theorem dX12_judge_7 : decode cX12_judge 7 = .ok (.lconst 0, 1) := by decide +kernel
theorem dX12_judge_8 : decode cX12_judge 8 = .ok (.ldc2_w 316, 3) := by decide +kernel
theorem dX12_judge_11 : decode cX12_judge 11 = .ok (.invokestatic 145, 3) := by decide +kernel
theorem dX12_judge_14 : decode cX12_judge 14 = .ok (.ifCond .ne 6, 3) := by decide +kernel
theorem dX12_judge_17 : decode cX12_judge 17 = .ok (.bipush (-2), 2) := by decide +kernel
theorem dX12_judge_19 : decode cX12_judge 19 = .ok (.ireturn, 1) := by decide +kernel
theorem dX12_judge_20 : decode cX12_judge 20 = .ok (.aload_n 0, 1) := by decide +kernel
theorem dX12_judge_21 : decode cX12_judge 21 = .ok (.iload_n 1, 1) := by decide +kernel
theorem dX12_judge_22 : decode cX12_judge 22 = .ok (.invokevirtual 318, 3) := by decide +kernel
theorem dX12_judge_25 : decode cX12_judge 25 = .ok (.istore_n 3, 1) := by decide +kernel
theorem dX12_judge_26 : decode cX12_judge 26 = .ok (.iload_n 3, 1) := by decide +kernel
theorem dX12_judge_27 : decode cX12_judge 27 = .ok (.ifCond .eq 5, 3) := by decide +kernel
theorem dX12_judge_30 : decode cX12_judge 30 = .ok (.iload_n 3, 1) := by decide +kernel
theorem dX12_judge_31 : decode cX12_judge 31 = .ok (.ireturn, 1) := by decide +kernel
theorem dX12_judge_32 : decode cX12_judge 32 = .ok (.aload_n 0, 1) := by decide +kernel
theorem dX12_judge_33 : decode cX12_judge 33 = .ok (.invokevirtual 264, 3) := by decide +kernel
theorem dX12_judge_36 : decode cX12_judge 36 = .ok (.aload_n 0, 1) := by decide +kernel
theorem dX12_judge_37 : decode cX12_judge 37 = .ok (.iload_n 1, 1) := by decide +kernel
theorem dX12_judge_38 : decode cX12_judge 38 = .ok (.invokevirtual 321, 3) := by decide +kernel
theorem dX12_judge_41 : decode cX12_judge 41 = .ok (.istore 4, 2) := by decide +kernel
theorem dX12_judge_43 : decode cX12_judge 43 = .ok (.aload_n 0, 1) := by decide +kernel
theorem dX12_judge_44 : decode cX12_judge 44 = .ok (.getfield 13, 3) := by decide +kernel
theorem dX12_judge_47 : decode cX12_judge 47 = .ok (.bipush 32, 2) := by decide +kernel
theorem dX12_judge_49 : decode cX12_judge 49 = .ok (.iaload, 1) := by decide +kernel
theorem dX12_judge_50 : decode cX12_judge 50 = .ok (.istore 5, 2) := by decide +kernel
theorem dX12_judge_52 : decode cX12_judge 52 = .ok (.aload_n 0, 1) := by decide +kernel
theorem dX12_judge_53 : decode cX12_judge 53 = .ok (.invokevirtual 324, 3) := by decide +kernel
theorem dX12_judge_56 : decode cX12_judge 56 = .ok (.istore 6, 2) := by decide +kernel
theorem dX12_judge_58 : decode cX12_judge 58 = .ok (.aload_n 0, 1) := by decide +kernel
theorem dX12_judge_59 : decode cX12_judge 59 = .ok (.invokevirtual 327, 3) := by decide +kernel
theorem dX12_judge_62 : decode cX12_judge 62 = .ok (.iload_n 2, 1) := by decide +kernel
theorem dX12_judge_63 : decode cX12_judge 63 = .ok (.ifCond .ne 19, 3) := by decide +kernel
theorem dX12_judge_66 : decode cX12_judge 66 = .ok (.aload_n 0, 1) := by decide +kernel
theorem dX12_judge_67 : decode cX12_judge 67 = .ok (.getfield 307, 3) := by decide +kernel
theorem dX12_judge_70 : decode cX12_judge 70 = .ok (.ifCond .ne 7, 3) := by decide +kernel
theorem dX12_judge_73 : decode cX12_judge 73 = .ok (.iconst (-1), 1) := by decide +kernel
theorem dX12_judge_74 : decode cX12_judge 74 = .ok (.goto 32, 3) := by decide +kernel
theorem dX12_judge_77 : decode cX12_judge 77 = .ok (.iload 4, 2) := by decide +kernel
theorem dX12_judge_79 : decode cX12_judge 79 = .ok (.goto 27, 3) := by decide +kernel
theorem dX12_judge_82 : decode cX12_judge 82 = .ok (.iload_n 2, 1) := by decide +kernel
theorem dX12_judge_83 : decode cX12_judge 83 = .ok (.iconst 1, 1) := by decide +kernel
theorem dX12_judge_84 : decode cX12_judge 84 = .ok (.if_icmp .ne 10, 3) := by decide +kernel
theorem dX12_judge_87 : decode cX12_judge 87 = .ok (.aload_n 0, 1) := by decide +kernel
theorem dX12_judge_88 : decode cX12_judge 88 = .ok (.getfield 307, 3) := by decide +kernel
theorem dX12_judge_91 : decode cX12_judge 91 = .ok (.goto 15, 3) := by decide +kernel
theorem dX12_judge_94 : decode cX12_judge 94 = .ok (.iload_n 2, 1) := by decide +kernel
theorem dX12_judge_95 : decode cX12_judge 95 = .ok (.iconst 2, 1) := by decide +kernel
theorem dX12_judge_96 : decode cX12_judge 96 = .ok (.if_icmp .ne 8, 3) := by decide +kernel
theorem dX12_judge_99 : decode cX12_judge 99 = .ok (.iload 5, 2) := by decide +kernel
theorem dX12_judge_101 : decode cX12_judge 101 = .ok (.goto 5, 3) := by decide +kernel
theorem dX12_judge_104 : decode cX12_judge 104 = .ok (.iload 6, 2) := by decide +kernel
theorem dX12_judge_106 : decode cX12_judge 106 = .ok (.ireturn, 1) := by decide +kernel
def r_judge (F : Nat) (I : Nat → Nat → Int32) (J : Nat → Nat → Int64) (z : Nat) (v1 : Int32) (v2 : Int32) : Option (Int32 × (Nat → Nat → Int32)) := let I1 := uI I z 0 0; if (r_within (Int32.toInt64 v2) 0 3) = 0 then (some ((-2), I1)) else ((r_noTray I1 z v1).bind (fun q4 => let u6 := q4; if u6 = 0 then ((r_keeps F I1 z).bind (fun q8 => let I10 := q8; (r_tells F I10 J z v1).bind (fun q11 => let u13 := q11.1; let I14 := q11.2; let x15 := (I14 (z + 1) (Int32.toNatClampNeg 32)); (r_firstNow F I14 z).bind (fun q17 => let u19 := q17; (r_isAgain F I14 z).bind (fun q20 => let I22 := q20; if v2 = 0 then (if (I22 z 20) = 0 then (some ((-1), I22)) else (some (u13, I22))) else (if v2 = 1 then (some ((I22 z 20), I22)) else (if v2 = 2 then (some (x15, I22)) else (some (u19, I22))))))))) else (some (u6, I1))))
theorem c_r_judge {l : Launch} {D : va_G} {E : Nat → ClassId} {B : Nat → Prop} {n F : Nat} {T : Nat → Option (Nat × Nat)} {I : Nat → Nat → Int32} {J : Nat → Nat → Int64} {P : Nat → Nat → Option Nat} {z : Nat} {v1 : Int32} {v2 : Int32} {r : Int32 × (Nat → Nat → Int32)} (hs_z : isMd T P z) (hf : r_judge F I J z v1 v2 = some r) : Ct l D E B yX12_judge cX12_judge 7 (some .int) 8 0 0 [.ref z, .int v1, .int v2] (n, T, I, J, P) (Ret (some (.int r.1)) (n, T, r.2, J, P)) := by
  unfold r_judge at hf
  refine Ct.ofV (by decide) (Nat.le_of_ble_eq_true rfl) ?_
  refine V.aload_n dX12_judge_0 rfl ?_
  refine V.iconst (v := 0) dX12_judge_1 (by decide) ?_
  refine V.putiE fl_X12_1 dX12_judge_2 (hs_z.1 0 (12, 0) rfl) (by decide) (fun h => by cases h) rfl rfl rfl (Nat.le_of_ble_eq_true rfl) (fun I1 e2 => ?_)
  rw [← e2] at hf
  try dsimp only at hf
  clear e2
  refine V.iload_n dX12_judge_5 rfl ?_
  refine V.i2l dX12_judge_6 ?_
  refine V.lconst (v := 0) dX12_judge_7 (by decide) ?_
  refine V.ldc2 dX12_judge_8 kc_X12_316 ?_
  refine V.ins cs_X12_145 (c_r_within) dX12_judge_11 rfl rfl (Nat.le_of_ble_eq_true rfl) (by decide) (by decide) (Nat.le_refl _) (Nat.le_refl _) (fun _ _ hq => ?_)
  obtain ⟨rfl, rfl⟩ := hq
  refine V.if_ne 20 dX12_judge_14 (by decide) (fun c3 => ?_) (fun c3 => ?_)
  · rw [if_neg c3] at hf
    refine V.aload_n dX12_judge_20 rfl ?_
    refine V.iload_n dX12_judge_21 rfl ?_
    obtain ⟨u6, hk5, hf⟩ := bnd_some hf
    try dsimp only at hf
    refine V.inv cv_X12_318 (c_r_noTray hs_z hk5) dX12_judge_22 (hs_z.1 0 (12, 0) rfl) (by decide) rfl rfl rfl (Nat.le_of_ble_eq_true rfl) (by decide) (by decide) (Nat.le_refl _) (Nat.le_refl _) (fun _ _ hq => ?_)
    obtain ⟨rfl, rfl⟩ := hq
    refine V.istore_n dX12_judge_25 rfl (by decide) (by first | exact rfl | exact trivial) ?_
    refine V.iload_n dX12_judge_26 rfl ?_
    refine V.if_eq 32 dX12_judge_27 (by decide) (fun c7 => ?_) (fun c7 => ?_)
    · rw [if_pos c7] at hf
      refine V.aload_n dX12_judge_32 rfl ?_
      obtain ⟨I10, hk9, hf⟩ := bnd_some hf
      try dsimp only at hf
      refine V.inv cv_X12_264 (c_r_keeps hs_z hk9) dX12_judge_33 (hs_z.1 0 (12, 0) rfl) (by decide) rfl rfl rfl (Nat.le_of_ble_eq_true rfl) (by decide) (by decide) (Nat.le_refl _) (Nat.le_refl _) (fun _ _ hq => ?_)
      obtain ⟨rfl, rfl⟩ := hq
      refine V.aload_n dX12_judge_36 rfl ?_
      refine V.iload_n dX12_judge_37 rfl ?_
      obtain ⟨⟨u13, I14⟩, hk12, hf⟩ := bnd_some hf
      try dsimp only at hf
      refine V.inv cv_X12_321 (c_r_tells hs_z hk12) dX12_judge_38 (hs_z.1 0 (12, 0) rfl) (by decide) rfl rfl rfl (Nat.le_of_ble_eq_true rfl) (by decide) (by decide) (Nat.le_refl _) (Nat.le_refl _) (fun _ _ hq => ?_)
      obtain ⟨rfl, rfl⟩ := hq
      try dsimp only
      refine V.istore dX12_judge_41 (by decide) (by first | exact rfl | exact trivial) ?_
      refine V.aload_n dX12_judge_43 rfl ?_
      refine V.getr fl_X12_13 dX12_judge_44 (hs_z.1 0 (12, 0) rfl) (hs_z.2 0 1 1 rfl) (by decide) rfl ?_
      refine V.bipush (v := 32) dX12_judge_47 (by decide) ?_
      refine V.iald dX12_judge_49 (hs_z.1 1 (20, 3891) rfl) (vp_lit (by decide)) ?_
      refine V.istore dX12_judge_50 (by decide) (by first | exact rfl | exact trivial) ?_
      obtain ⟨x15, e16⟩ : ∃ zz_, zz_ = (I14 (z + 1) (Int32.toNatClampNeg 32)) := ⟨_, rfl⟩
      rw [← e16] at hf ⊢
      try dsimp only at hf
      refine V.aload_n dX12_judge_52 rfl ?_
      obtain ⟨u19, hk18, hf⟩ := bnd_some hf
      try dsimp only at hf
      refine V.inv cv_X12_324 (c_r_firstNow hs_z hk18) dX12_judge_53 (hs_z.1 0 (12, 0) rfl) (by decide) rfl rfl rfl (Nat.le_of_ble_eq_true rfl) (by decide) (by decide) (Nat.le_refl _) (Nat.le_refl _) (fun _ _ hq => ?_)
      obtain ⟨rfl, rfl⟩ := hq
      refine V.istore dX12_judge_56 (by decide) (by first | exact rfl | exact trivial) ?_
      refine V.aload_n dX12_judge_58 rfl ?_
      obtain ⟨I22, hk21, hf⟩ := bnd_some hf
      try dsimp only at hf
      refine V.inv cv_X12_327 (c_r_isAgain hs_z hk21) dX12_judge_59 (hs_z.1 0 (12, 0) rfl) (by decide) rfl rfl rfl (Nat.le_of_ble_eq_true rfl) (by decide) (by decide) (Nat.le_refl _) (Nat.le_refl _) (fun _ _ hq => ?_)
      obtain ⟨rfl, rfl⟩ := hq
      refine V.iload_n dX12_judge_62 rfl ?_
      refine V.if_ne 82 dX12_judge_63 (by decide) (fun c23 => ?_) (fun c23 => ?_)
      · rw [if_neg c23] at hf
        refine V.iload_n dX12_judge_82 rfl ?_
        refine V.iconst (v := 1) dX12_judge_83 (by decide) ?_
        refine V.icmp_ne 94 dX12_judge_84 (by decide) (fun c24 => ?_) (fun c24 => ?_)
        · rw [if_neg c24] at hf
          refine V.iload_n dX12_judge_94 rfl ?_
          refine V.iconst (v := 2) dX12_judge_95 (by decide) ?_
          refine V.icmp_ne 104 dX12_judge_96 (by decide) (fun c25 => ?_) (fun c25 => ?_)
          · rw [if_neg c25] at hf
            refine V.iload dX12_judge_104 rfl ?_
            obtain rfl := Option.some.inj hf
            exact V.iret dX12_judge_106 rfl (Nat.le_refl _) (Nat.le_refl _) ⟨rfl, rfl⟩
          · rw [if_pos c25] at hf
            refine V.iload dX12_judge_99 rfl ?_
            refine V.goto 106 dX12_judge_101 (by decide) ?_
            obtain rfl := Option.some.inj hf
            exact V.iret dX12_judge_106 rfl (Nat.le_refl _) (Nat.le_refl _) ⟨rfl, rfl⟩
        · rw [if_pos c24] at hf
          refine V.aload_n dX12_judge_87 rfl ?_
          refine V.getf fl_X12_307 dX12_judge_88 (hs_z.1 0 (12, 0) rfl) (by decide) rfl ?_
          refine V.goto 106 dX12_judge_91 (by decide) ?_
          obtain rfl := Option.some.inj hf
          exact V.iret dX12_judge_106 rfl (Nat.le_refl _) (Nat.le_refl _) ⟨rfl, rfl⟩
      · rw [if_pos c23] at hf
        refine V.aload_n dX12_judge_66 rfl ?_
        refine V.getf fl_X12_307 dX12_judge_67 (hs_z.1 0 (12, 0) rfl) (by decide) rfl ?_
        refine V.if_ne 77 dX12_judge_70 (by decide) (fun c26 => ?_) (fun c26 => ?_)
        · rw [if_neg c26] at hf
          refine V.iload dX12_judge_77 rfl ?_
          refine V.goto 106 dX12_judge_79 (by decide) ?_
          obtain rfl := Option.some.inj hf
          exact V.iret dX12_judge_106 rfl (Nat.le_refl _) (Nat.le_refl _) ⟨rfl, rfl⟩
        · rw [if_pos c26] at hf
          refine V.iconst (v := -1) dX12_judge_73 (by decide) ?_
          refine V.goto 106 dX12_judge_74 (by decide) ?_
          obtain rfl := Option.some.inj hf
          exact V.iret dX12_judge_106 rfl (Nat.le_refl _) (Nat.le_refl _) ⟨rfl, rfl⟩
    · rw [if_neg c7] at hf
      refine V.iload_n dX12_judge_30 rfl ?_
      obtain rfl := Option.some.inj hf
      exact V.iret dX12_judge_31 rfl (Nat.le_refl _) (Nat.le_refl _) ⟨rfl, rfl⟩
  · rw [if_pos c3] at hf
    refine V.bipush (v := -2) dX12_judge_17 (by decide) ?_
    obtain rfl := Option.some.inj hf
    exact V.iret dX12_judge_19 rfl (Nat.le_refl _) (Nat.le_refl _) ⟨rfl, rfl⟩
theorem dX12_perform_0 : decode cX12_perform 0 = .ok (.aload_n 0, 1) := by decide +kernel
theorem dX12_perform_1 : decode cX12_perform 1 = .ok (.iconst 0, 1) := by decide +kernel
theorem dX12_perform_2 : decode cX12_perform 2 = .ok (.putfield 1, 3) := by decide +kernel
theorem dX12_perform_5 : decode cX12_perform 5 = .ok (.aload_n 0, 1) := by decide +kernel
theorem dX12_perform_6 : decode cX12_perform 6 = .ok (.iload_n 1, 1) := by decide +kernel
theorem dX12_perform_7 : decode cX12_perform 7 = .ok (.invokevirtual 318, 3) := by decide +kernel
theorem dX12_perform_10 : decode cX12_perform 10 = .ok (.istore_n 2, 1) := by decide +kernel
theorem dX12_perform_11 : decode cX12_perform 11 = .ok (.iload_n 2, 1) := by decide +kernel
theorem dX12_perform_12 : decode cX12_perform 12 = .ok (.ifCond .eq 5, 3) := by decide +kernel
theorem dX12_perform_15 : decode cX12_perform 15 = .ok (.iload_n 2, 1) := by decide +kernel
theorem dX12_perform_16 : decode cX12_perform 16 = .ok (.ireturn, 1) := by decide +kernel
theorem dX12_perform_17 : decode cX12_perform 17 = .ok (.aload_n 0, 1) := by decide +kernel
theorem dX12_perform_18 : decode cX12_perform 18 = .ok (.invokevirtual 264, 3) := by decide +kernel
theorem dX12_perform_21 : decode cX12_perform 21 = .ok (.aload_n 0, 1) := by decide +kernel
theorem dX12_perform_22 : decode cX12_perform 22 = .ok (.iload_n 1, 1) := by decide +kernel
theorem dX12_perform_23 : decode cX12_perform 23 = .ok (.invokevirtual 321, 3) := by decide +kernel
theorem dX12_perform_26 : decode cX12_perform 26 = .ok (.istore_n 3, 1) := by decide +kernel
theorem dX12_perform_27 : decode cX12_perform 27 = .ok (.iload_n 3, 1) := by decide +kernel
theorem dX12_perform_28 : decode cX12_perform 28 = .ok (.ifCond .le 7, 3) := by decide +kernel
theorem dX12_perform_31 : decode cX12_perform 31 = .ok (.aload_n 0, 1) := by decide +kernel
theorem dX12_perform_32 : decode cX12_perform 32 = .ok (.invokevirtual 270, 3) := by decide +kernel
theorem dX12_perform_35 : decode cX12_perform 35 = .ok (.iload_n 3, 1) := by decide +kernel
theorem dX12_perform_36 : decode cX12_perform 36 = .ok (.ireturn, 1) := by decide +kernel
def r_perform (F : Nat) (I : Nat → Nat → Int32) (J : Nat → Nat → Int64) (z : Nat) (v1 : Int32) : Option (Int32 × (Nat → Nat → Int32)) := let I1 := uI I z 0 0; (r_noTray I1 z v1).bind (fun q3 => let u5 := q3; if u5 = 0 then ((r_keeps F I1 z).bind (fun q7 => let I9 := q7; (r_tells F I9 J z v1).bind (fun q10 => let u12 := q10.1; let I13 := q10.2; if u12 ≤ 0 then (some (u12, I13)) else ((r_notes F I13 z).bind (fun q15 => let I17 := q15; some (u12, I17)))))) else (some (u5, I1)))
theorem c_r_perform {l : Launch} {D : va_G} {E : Nat → ClassId} {B : Nat → Prop} {n F : Nat} {T : Nat → Option (Nat × Nat)} {I : Nat → Nat → Int32} {J : Nat → Nat → Int64} {P : Nat → Nat → Option Nat} {z : Nat} {v1 : Int32} {r : Int32 × (Nat → Nat → Int32)} (hs_z : isMd T P z) (hf : r_perform F I J z v1 = some r) : Ct l D E B yX12_perform cX12_perform 4 (some .int) 8 0 0 [.ref z, .int v1] (n, T, I, J, P) (Ret (some (.int r.1)) (n, T, r.2, J, P)) := by
  unfold r_perform at hf
  refine Ct.ofV (by decide) (Nat.le_of_ble_eq_true rfl) ?_
  refine V.aload_n dX12_perform_0 rfl ?_
  refine V.iconst (v := 0) dX12_perform_1 (by decide) ?_
  refine V.putiE fl_X12_1 dX12_perform_2 (hs_z.1 0 (12, 0) rfl) (by decide) (fun h => by cases h) rfl rfl rfl (Nat.le_of_ble_eq_true rfl) (fun I1 e2 => ?_)
  rw [← e2] at hf
  try dsimp only at hf
  clear e2
  refine V.aload_n dX12_perform_5 rfl ?_
  refine V.iload_n dX12_perform_6 rfl ?_
  obtain ⟨u5, hk4, hf⟩ := bnd_some hf
  try dsimp only at hf
  refine V.inv cv_X12_318 (c_r_noTray hs_z hk4) dX12_perform_7 (hs_z.1 0 (12, 0) rfl) (by decide) rfl rfl rfl (Nat.le_of_ble_eq_true rfl) (by decide) (by decide) (Nat.le_refl _) (Nat.le_refl _) (fun _ _ hq => ?_)
  obtain ⟨rfl, rfl⟩ := hq
  refine V.istore_n dX12_perform_10 rfl (by decide) (by first | exact rfl | exact trivial) ?_
  refine V.iload_n dX12_perform_11 rfl ?_
  refine V.if_eq 17 dX12_perform_12 (by decide) (fun c6 => ?_) (fun c6 => ?_)
  · rw [if_pos c6] at hf
    refine V.aload_n dX12_perform_17 rfl ?_
    obtain ⟨I9, hk8, hf⟩ := bnd_some hf
    try dsimp only at hf
    refine V.inv cv_X12_264 (c_r_keeps hs_z hk8) dX12_perform_18 (hs_z.1 0 (12, 0) rfl) (by decide) rfl rfl rfl (Nat.le_of_ble_eq_true rfl) (by decide) (by decide) (Nat.le_refl _) (Nat.le_refl _) (fun _ _ hq => ?_)
    obtain ⟨rfl, rfl⟩ := hq
    refine V.aload_n dX12_perform_21 rfl ?_
    refine V.iload_n dX12_perform_22 rfl ?_
    obtain ⟨⟨u12, I13⟩, hk11, hf⟩ := bnd_some hf
    try dsimp only at hf
    refine V.inv cv_X12_321 (c_r_tells hs_z hk11) dX12_perform_23 (hs_z.1 0 (12, 0) rfl) (by decide) rfl rfl rfl (Nat.le_of_ble_eq_true rfl) (by decide) (by decide) (Nat.le_refl _) (Nat.le_refl _) (fun _ _ hq => ?_)
    obtain ⟨rfl, rfl⟩ := hq
    try dsimp only
    refine V.istore_n dX12_perform_26 rfl (by decide) (by first | exact rfl | exact trivial) ?_
    refine V.iload_n dX12_perform_27 rfl ?_
    refine V.if_le 35 dX12_perform_28 (by decide) (fun c14 => ?_) (fun c14 => ?_)
    · rw [if_pos c14] at hf
      refine V.iload_n dX12_perform_35 rfl ?_
      obtain rfl := Option.some.inj hf
      exact V.iret dX12_perform_36 rfl (Nat.le_refl _) (Nat.le_refl _) ⟨rfl, rfl⟩
    · rw [if_neg c14] at hf
      refine V.aload_n dX12_perform_31 rfl ?_
      obtain ⟨I17, hk16, hf⟩ := bnd_some hf
      try dsimp only at hf
      refine V.inv cv_X12_270 (c_r_notes hs_z hk16) dX12_perform_32 (hs_z.1 0 (12, 0) rfl) (by decide) rfl rfl rfl (Nat.le_of_ble_eq_true rfl) (by decide) (by decide) (Nat.le_refl _) (Nat.le_refl _) (fun _ _ hq => ?_)
      obtain ⟨rfl, rfl⟩ := hq
      refine V.iload_n dX12_perform_35 rfl ?_
      obtain rfl := Option.some.inj hf
      exact V.iret dX12_perform_36 rfl (Nat.le_refl _) (Nat.le_refl _) ⟨rfl, rfl⟩
  · rw [if_neg c6] at hf
    refine V.iload_n dX12_perform_15 rfl ?_
    obtain rfl := Option.some.inj hf
    exact V.iret dX12_perform_16 rfl (Nat.le_refl _) (Nat.le_refl _) ⟨rfl, rfl⟩
theorem dX12_draw_0 : decode cX12_draw 0 = .ok (.aload_n 0, 1) := by decide +kernel
theorem dX12_draw_1 : decode cX12_draw 1 = .ok (.ldc_w 330, 3) := by decide +kernel
theorem dX12_draw_4 : decode cX12_draw 4 = .ok (.aload_n 0, 1) := by decide +kernel
theorem dX12_draw_5 : decode cX12_draw 5 = .ok (.getfield 331, 3) := by decide +kernel
theorem dX12_draw_8 : decode cX12_draw 8 = .ok (.imul, 1) := by decide +kernel
theorem dX12_draw_9 : decode cX12_draw 9 = .ok (.sipush 12345, 3) := by decide +kernel
theorem dX12_draw_12 : decode cX12_draw 12 = .ok (.iadd, 1) := by decide +kernel
theorem dX12_draw_13 : decode cX12_draw 13 = .ok (.putfield 331, 3) := by decide +kernel
theorem dX12_draw_16 : decode cX12_draw 16 = .ok (.aload_n 0, 1) := by decide +kernel
theorem dX12_draw_17 : decode cX12_draw 17 = .ok (.getfield 331, 3) := by decide +kernel
theorem dX12_draw_20 : decode cX12_draw 20 = .ok (.bipush 16, 2) := by decide +kernel
theorem dX12_draw_22 : decode cX12_draw 22 = .ok (.iushr, 1) := by decide +kernel
theorem dX12_draw_23 : decode cX12_draw 23 = .ok (.iload_n 1, 1) := by decide +kernel
theorem dX12_draw_24 : decode cX12_draw 24 = .ok (.irem, 1) := by decide +kernel
theorem dX12_draw_25 : decode cX12_draw 25 = .ok (.ireturn, 1) := by decide +kernel
def r_draw (I : Nat → Nat → Int32) (z : Nat) (v1 : Int32) : Option (Int32 × (Nat → Nat → Int32)) := let I1 := uI I z 21 ((1103515245 * (I z 21)) + 12345); nz v1 (some (((Int32.toUInt32 (I1 z 21) >>> (Int32.toUInt32 16 &&& Int32.toUInt32 31)).toInt32 - (Int32.toUInt32 (I1 z 21) >>> (Int32.toUInt32 16 &&& Int32.toUInt32 31)).toInt32 / v1 * v1), I1))
theorem c_r_draw {l : Launch} {D : va_G} {E : Nat → ClassId} {B : Nat → Prop} {n : Nat} {T : Nat → Option (Nat × Nat)} {I : Nat → Nat → Int32} {J : Nat → Nat → Int64} {P : Nat → Nat → Option Nat} {z : Nat} {v1 : Int32} {r : Int32 × (Nat → Nat → Int32)} (hs_z : isMd T P z) (hf : r_draw I z v1 = some r) : Ct l D E B yX12_draw cX12_draw 2 (some .int) 0 0 0 [.ref z, .int v1] (n, T, I, J, P) (Ret (some (.int r.1)) (n, T, r.2, J, P)) := by
  unfold r_draw at hf
  refine Ct.ofV (by decide) (Nat.le_of_ble_eq_true rfl) ?_
  refine V.aload_n dX12_draw_0 rfl ?_
  refine V.ldcw dX12_draw_1 kc_X12_330 ?_
  refine V.aload_n dX12_draw_4 rfl ?_
  refine V.getf fl_X12_331 dX12_draw_5 (hs_z.1 0 (12, 0) rfl) (by decide) rfl ?_
  refine V.imul dX12_draw_8 ?_
  refine V.sipush (v := 12345) dX12_draw_9 (by decide) ?_
  refine V.iadd dX12_draw_12 ?_
  refine V.putiE fl_X12_331 dX12_draw_13 (hs_z.1 0 (12, 0) rfl) (by decide) (fun h => by cases h) rfl rfl rfl (Nat.le_of_ble_eq_true rfl) (fun I1 e2 => ?_)
  rw [← e2] at hf
  try dsimp only at hf
  clear e2
  refine V.aload_n dX12_draw_16 rfl ?_
  refine V.getf fl_X12_331 dX12_draw_17 (hs_z.1 0 (12, 0) rfl) (by decide) rfl ?_
  refine V.bipush (v := 16) dX12_draw_20 (by decide) ?_
  refine V.iushr dX12_draw_22 ?_
  refine V.iload_n dX12_draw_23 rfl ?_
  obtain ⟨hz3, hf⟩ := nz_some hf
  refine V.irem dX12_draw_24 hz3 ?_
  obtain rfl := Option.some.inj hf
  exact V.iret dX12_draw_25 rfl (Nat.le_refl _) (Nat.le_refl _) ⟨rfl, rfl⟩
theorem dX12_drawn_0 : decode cX12_drawn 0 = .ok (.aload_n 0, 1) := by decide +kernel
theorem dX12_drawn_1 : decode cX12_drawn 1 = .ok (.bipush 6, 2) := by decide +kernel
theorem dX12_drawn_3 : decode cX12_drawn 3 = .ok (.invokevirtual 334, 3) := by decide +kernel
theorem dX12_drawn_6 : decode cX12_drawn 6 = .ok (.istore_n 1, 1) := by decide +kernel
theorem dX12_drawn_7 : decode cX12_drawn 7 = .ok (.iload_n 1, 1) := by decide +kernel
theorem dX12_drawn_8 : decode cX12_drawn 8 = .ok (.iconst 5, 1) := by decide +kernel
theorem dX12_drawn_9 : decode cX12_drawn 9 = .ok (.if_icmp .ne 5, 3) := by decide +kernel
theorem dX12_drawn_12 : decode cX12_drawn 12 = .ok (.iconst (-1), 1) := by decide +kernel
theorem dX12_drawn_13 : decode cX12_drawn 13 = .ok (.ireturn, 1) := by decide +kernel
theorem dX12_drawn_14 : decode cX12_drawn 14 = .ok (.iload_n 1, 1) := by decide +kernel
theorem dX12_drawn_15 : decode cX12_drawn 15 = .ok (.iconst 3, 1) := by decide +kernel
theorem dX12_drawn_16 : decode cX12_drawn 16 = .ok (.if_icmp .ge 9, 3) := by decide +kernel
theorem dX12_drawn_19 : decode cX12_drawn 19 = .ok (.aload_n 0, 1) := by decide +kernel
theorem dX12_drawn_20 : decode cX12_drawn 20 = .ok (.iconst 4, 1) := by decide +kernel
theorem dX12_drawn_21 : decode cX12_drawn 21 = .ok (.invokevirtual 334, 3) := by decide +kernel
theorem dX12_drawn_24 : decode cX12_drawn 24 = .ok (.ireturn, 1) := by decide +kernel
theorem dX12_drawn_25 : decode cX12_drawn 25 = .ok (.aload_n 0, 1) := by decide +kernel
theorem dX12_drawn_26 : decode cX12_drawn 26 = .ok (.bipush 6, 2) := by decide +kernel
theorem dX12_drawn_28 : decode cX12_drawn 28 = .ok (.invokevirtual 334, 3) := by decide +kernel
theorem dX12_drawn_31 : decode cX12_drawn 31 = .ok (.istore_n 2, 1) := by decide +kernel
theorem dX12_drawn_32 : decode cX12_drawn 32 = .ok (.iload_n 1, 1) := by decide +kernel
theorem dX12_drawn_33 : decode cX12_drawn 33 = .ok (.iconst 3, 1) := by decide +kernel
theorem dX12_drawn_34 : decode cX12_drawn 34 = .ok (.if_icmp .ne 10, 3) := by decide +kernel
theorem dX12_drawn_37 : decode cX12_drawn 37 = .ok (.bipush 10, 2) := by decide +kernel
theorem dX12_drawn_39 : decode cX12_drawn 39 = .ok (.iload_n 2, 1) := by decide +kernel
theorem dX12_drawn_40 : decode cX12_drawn 40 = .ok (.iadd, 1) := by decide +kernel
theorem dX12_drawn_41 : decode cX12_drawn 41 = .ok (.goto 17, 3) := by decide +kernel
theorem dX12_drawn_44 : decode cX12_drawn 44 = .ok (.bipush 100, 2) := by decide +kernel
theorem dX12_drawn_46 : decode cX12_drawn 46 = .ok (.bipush 10, 2) := by decide +kernel
theorem dX12_drawn_48 : decode cX12_drawn 48 = .ok (.iload_n 2, 1) := by decide +kernel
theorem dX12_drawn_49 : decode cX12_drawn 49 = .ok (.imul, 1) := by decide +kernel
theorem dX12_drawn_50 : decode cX12_drawn 50 = .ok (.iadd, 1) := by decide +kernel
theorem dX12_drawn_51 : decode cX12_drawn 51 = .ok (.aload_n 0, 1) := by decide +kernel
theorem dX12_drawn_52 : decode cX12_drawn 52 = .ok (.bipush 6, 2) := by decide +kernel
theorem dX12_drawn_54 : decode cX12_drawn 54 = .ok (.invokevirtual 334, 3) := by decide +kernel
theorem dX12_drawn_57 : decode cX12_drawn 57 = .ok (.iadd, 1) := by decide +kernel
theorem dX12_drawn_58 : decode cX12_drawn 58 = .ok (.ireturn, 1) := by decide +kernel
def r_drawn (I : Nat → Nat → Int32) (z : Nat) : Option (Int32 × (Nat → Nat → Int32)) := (r_draw I z 6).bind (fun q1 => let u3 := q1.1; let I4 := q1.2; if u3 = 5 then (some ((-1), I4)) else (if 3 ≤ u3 then ((r_draw I4 z 6).bind (fun q7 => let u9 := q7.1; let I10 := q7.2; if u3 = 3 then (some ((10 + u9), I10)) else ((r_draw I10 z 6).bind (fun q12 => let u14 := q12.1; let I15 := q12.2; some (((100 + (10 * u9)) + u14), I15))))) else ((r_draw I4 z 4).bind (fun q16 => let u18 := q16.1; let I19 := q16.2; some (u18, I19)))))
theorem c_r_drawn {l : Launch} {D : va_G} {E : Nat → ClassId} {B : Nat → Prop} {n : Nat} {T : Nat → Option (Nat × Nat)} {I : Nat → Nat → Int32} {J : Nat → Nat → Int64} {P : Nat → Nat → Option Nat} {z : Nat}  {r : Int32 × (Nat → Nat → Int32)} (hs_z : isMd T P z) (hf : r_drawn I z = some r) : Ct l D E B yX12_drawn cX12_drawn 3 (some .int) 1 0 0 [.ref z] (n, T, I, J, P) (Ret (some (.int r.1)) (n, T, r.2, J, P)) := by
  unfold r_drawn at hf
  refine Ct.ofV (by decide) (Nat.le_of_ble_eq_true rfl) ?_
  refine V.aload_n dX12_drawn_0 rfl ?_
  refine V.bipush (v := 6) dX12_drawn_1 (by decide) ?_
  obtain ⟨⟨u3, I4⟩, hk2, hf⟩ := bnd_some hf
  try dsimp only at hf
  refine V.inv cv_X12_334 (c_r_draw hs_z hk2) dX12_drawn_3 (hs_z.1 0 (12, 0) rfl) (by decide) rfl rfl rfl (Nat.le_of_ble_eq_true rfl) (by decide) (by decide) (Nat.le_refl _) (Nat.le_refl _) (fun _ _ hq => ?_)
  obtain ⟨rfl, rfl⟩ := hq
  try dsimp only
  refine V.istore_n dX12_drawn_6 rfl (by decide) (by first | exact rfl | exact trivial) ?_
  refine V.iload_n dX12_drawn_7 rfl ?_
  refine V.iconst (v := 5) dX12_drawn_8 (by decide) ?_
  refine V.icmp_ne 14 dX12_drawn_9 (by decide) (fun c5 => ?_) (fun c5 => ?_)
  · rw [if_neg c5] at hf
    refine V.iload_n dX12_drawn_14 rfl ?_
    refine V.iconst (v := 3) dX12_drawn_15 (by decide) ?_
    refine V.icmp_ge 25 dX12_drawn_16 (by decide) (fun c6 => ?_) (fun c6 => ?_)
    · rw [if_pos c6] at hf
      refine V.aload_n dX12_drawn_25 rfl ?_
      refine V.bipush (v := 6) dX12_drawn_26 (by decide) ?_
      obtain ⟨⟨u9, I10⟩, hk8, hf⟩ := bnd_some hf
      try dsimp only at hf
      refine V.inv cv_X12_334 (c_r_draw hs_z hk8) dX12_drawn_28 (hs_z.1 0 (12, 0) rfl) (by decide) rfl rfl rfl (Nat.le_of_ble_eq_true rfl) (by decide) (by decide) (Nat.le_refl _) (Nat.le_refl _) (fun _ _ hq => ?_)
      obtain ⟨rfl, rfl⟩ := hq
      try dsimp only
      refine V.istore_n dX12_drawn_31 rfl (by decide) (by first | exact rfl | exact trivial) ?_
      refine V.iload_n dX12_drawn_32 rfl ?_
      refine V.iconst (v := 3) dX12_drawn_33 (by decide) ?_
      refine V.icmp_ne 44 dX12_drawn_34 (by decide) (fun c11 => ?_) (fun c11 => ?_)
      · rw [if_neg c11] at hf
        refine V.bipush (v := 100) dX12_drawn_44 (by decide) ?_
        refine V.bipush (v := 10) dX12_drawn_46 (by decide) ?_
        refine V.iload_n dX12_drawn_48 rfl ?_
        refine V.imul dX12_drawn_49 ?_
        refine V.iadd dX12_drawn_50 ?_
        refine V.aload_n dX12_drawn_51 rfl ?_
        refine V.bipush (v := 6) dX12_drawn_52 (by decide) ?_
        obtain ⟨⟨u14, I15⟩, hk13, hf⟩ := bnd_some hf
        try dsimp only at hf
        refine V.inv cv_X12_334 (c_r_draw hs_z hk13) dX12_drawn_54 (hs_z.1 0 (12, 0) rfl) (by decide) rfl rfl rfl (Nat.le_of_ble_eq_true rfl) (by decide) (by decide) (Nat.le_refl _) (Nat.le_refl _) (fun _ _ hq => ?_)
        obtain ⟨rfl, rfl⟩ := hq
        try dsimp only
        refine V.iadd dX12_drawn_57 ?_
        obtain rfl := Option.some.inj hf
        exact V.iret dX12_drawn_58 rfl (Nat.le_refl _) (Nat.le_refl _) ⟨rfl, rfl⟩
      · rw [if_pos c11] at hf
        refine V.bipush (v := 10) dX12_drawn_37 (by decide) ?_
        refine V.iload_n dX12_drawn_39 rfl ?_
        refine V.iadd dX12_drawn_40 ?_
        refine V.goto 58 dX12_drawn_41 (by decide) ?_
        obtain rfl := Option.some.inj hf
        exact V.iret dX12_drawn_58 rfl (Nat.le_refl _) (Nat.le_refl _) ⟨rfl, rfl⟩
    · rw [if_neg c6] at hf
      refine V.aload_n dX12_drawn_19 rfl ?_
      refine V.iconst (v := 4) dX12_drawn_20 (by decide) ?_
      obtain ⟨⟨u18, I19⟩, hk17, hf⟩ := bnd_some hf
      try dsimp only at hf
      refine V.inv cv_X12_334 (c_r_draw hs_z hk17) dX12_drawn_21 (hs_z.1 0 (12, 0) rfl) (by decide) rfl rfl rfl (Nat.le_of_ble_eq_true rfl) (by decide) (by decide) (Nat.le_refl _) (Nat.le_refl _) (fun _ _ hq => ?_)
      obtain ⟨rfl, rfl⟩ := hq
      try dsimp only
      obtain rfl := Option.some.inj hf
      exact V.iret dX12_drawn_24 rfl (Nat.le_refl _) (Nat.le_refl _) ⟨rfl, rfl⟩
  · rw [if_pos c5] at hf
    refine V.iconst (v := -1) dX12_drawn_12 (by decide) ?_
    obtain rfl := Option.some.inj hf
    exact V.iret dX12_drawn_13 rfl (Nat.le_refl _) (Nat.le_refl _) ⟨rfl, rfl⟩
theorem dX12_season_0 : decode cX12_season 0 = .ok (.aload_n 0, 1) := by decide +kernel
theorem dX12_season_1 : decode cX12_season 1 = .ok (.iconst 0, 1) := by decide +kernel
theorem dX12_season_2 : decode cX12_season 2 = .ok (.putfield 1, 3) := by decide +kernel
theorem dX12_season_5 : decode cX12_season 5 = .ok (.iload_n 2, 1) := by decide +kernel
theorem dX12_season_6 : decode cX12_season 6 = .ok (.i2l, 1) := by decide +kernel
theorem dX12_season_7 : decode cX12_season 7 = .ok (.lconst 1, 1) := by decide +kernel
theorem dX12_season_8 : decode cX12_season 8 = .ok (.ldc2_w 337, 3) := by decide +kernel
theorem dX12_season_11 : decode cX12_season 11 = .ok (.invokestatic 145, 3) := by decide +kernel
theorem dX12_season_14 : decode cX12_season 14 = .ok (.ifCond .ne 6, 3) := by decide +kernel
theorem dX12_season_17 : decode cX12_season 17 = .ok (.bipush (-3), 2) := by decide +kernel
theorem dX12_season_19 : decode cX12_season 19 = .ok (.ireturn, 1) := by decide +kernel
theorem dX12_season_20 : decode cX12_season 20 = .ok (.aload_n 0, 1) := by decide +kernel
theorem dX12_season_21 : decode cX12_season 21 = .ok (.invokevirtual 264, 3) := by decide +kernel
theorem dX12_season_24 : decode cX12_season 24 = .ok (.aload_n 0, 1) := by decide +kernel
theorem dX12_season_25 : decode cX12_season 25 = .ok (.iload_n 1, 1) := by decide +kernel
theorem dX12_season_26 : decode cX12_season 26 = .ok (.putfield 331, 3) := by decide +kernel
theorem dX12_season_29 : decode cX12_season 29 = .ok (.iconst 0, 1) := by decide +kernel
theorem dX12_season_30 : decode cX12_season 30 = .ok (.istore_n 3, 1) := by decide +kernel
theorem dX12_season_31 : decode cX12_season 31 = .ok (.iconst 0, 1) := by decide +kernel
theorem dX12_season_32 : decode cX12_season 32 = .ok (.istore 4, 2) := by decide +kernel
theorem dX12_season_34 : decode cX12_season 34 = .ok (.iload 4, 2) := by decide +kernel
theorem dX12_season_36 : decode cX12_season 36 = .ok (.iload_n 2, 1) := by decide +kernel
theorem dX12_season_37 : decode cX12_season 37 = .ok (.if_icmp .ge 37, 3) := by decide +kernel
theorem dX12_season_40 : decode cX12_season 40 = .ok (.aload_n 0, 1) := by decide +kernel
theorem dX12_season_41 : decode cX12_season 41 = .ok (.invokevirtual 339, 3) := by decide +kernel
theorem dX12_season_44 : decode cX12_season 44 = .ok (.istore 5, 2) := by decide +kernel
theorem dX12_season_46 : decode cX12_season 46 = .ok (.aload_n 0, 1) := by decide +kernel
theorem dX12_season_47 : decode cX12_season 47 = .ok (.iload 5, 2) := by decide +kernel
theorem dX12_season_49 : decode cX12_season 49 = .ok (.i2l, 1) := by decide +kernel
theorem dX12_season_50 : decode cX12_season 50 = .ok (.invokevirtual 310, 3) := by decide +kernel
theorem dX12_season_53 : decode cX12_season 53 = .ok (.ifCond .eq 6, 3) := by decide +kernel
theorem dX12_season_56 : decode cX12_season 56 = .ok (.goto 12, 3) := by decide +kernel
theorem dX12_season_59 : decode cX12_season 59 = .ok (.aload_n 0, 1) := by decide +kernel
theorem dX12_season_60 : decode cX12_season 60 = .ok (.iload 5, 2) := by decide +kernel
theorem dX12_season_62 : decode cX12_season 62 = .ok (.invokevirtual 313, 3) := by decide +kernel
theorem dX12_season_65 : decode cX12_season 65 = .ok (.iinc 3 1, 3) := by decide +kernel
theorem dX12_season_68 : decode cX12_season 68 = .ok (.iinc 4 1, 3) := by decide +kernel
theorem dX12_season_71 : decode cX12_season 71 = .ok (.goto (-37), 3) := by decide +kernel
theorem dX12_season_74 : decode cX12_season 74 = .ok (.iload_n 3, 1) := by decide +kernel
theorem dX12_season_75 : decode cX12_season 75 = .ok (.ifCond .le 7, 3) := by decide +kernel
theorem dX12_season_78 : decode cX12_season 78 = .ok (.aload_n 0, 1) := by decide +kernel
theorem dX12_season_79 : decode cX12_season 79 = .ok (.invokevirtual 270, 3) := by decide +kernel
theorem dX12_season_82 : decode cX12_season 82 = .ok (.iload_n 3, 1) := by decide +kernel
theorem dX12_season_83 : decode cX12_season 83 = .ok (.ireturn, 1) := by decide +kernel
def r_season_34 (F : Nat) (z : Nat) (g1 : Int32) (g2 : Int32) : Nat → Int32 → Int32 → (Nat → Nat → Int32) → Option (Int32 × Int32 × (Nat → Nat → Int32))
  | 0, _, _, _ => none
  | k + 1, l3, l4, I => if g2 ≤ l4 then (some (l3, l4, I)) else ((r_drawn I z).bind (fun q10 => let u12 := q10.1; let I13 := q10.2; (r_whyNot I13 z (Int32.toInt64 u12)).bind (fun q14 => let u16 := q14; if u16 = 0 then ((r_does F I13 z u12).bind (fun q18 => let I20 := q18; r_season_34 F z g1 g2 k (l3 + 1) (l4 + 1) I20)) else (r_season_34 F z g1 g2 k l3 (l4 + 1) I13))))
def r_season (F : Nat) (I : Nat → Nat → Int32) (z : Nat) (v1 : Int32) (v2 : Int32) : Option (Int32 × (Nat → Nat → Int32)) := let I1 := uI I z 0 0; if (r_within (Int32.toInt64 v2) 1 40) = 0 then (some ((-3), I1)) else ((r_keeps F I1 z).bind (fun q4 => let I6 := q4; let I7 := uI I6 z 21 v1; (r_season_34 F z v1 v2 F 0 0 I7).bind (fun q21 => let m23 := q21.1; let m24 := q21.2.1; let I25 := q21.2.2; if m23 ≤ 0 then (some (m23, I25)) else ((r_notes F I25 z).bind (fun q27 => let I29 := q27; some (m23, I29))))))
theorem l_r_season_34 {l : Launch} {D : va_G} {E : Nat → ClassId} {B : Nat → Prop} {n F : Nat} {Q : Option Value → HT → Prop} {T : Nat → Option (Nat × Nat)} {J : Nat → Nat → Int64} {P : Nat → Nat → Option Nat} {z : Nat} {g1 : Int32} {g2 : Int32} (hs_z : isMd T P z)  (r : Int32 × Int32 × (Nat → Nat → Int32)) : ∀ (k : Nat) (l3 : Int32) (l4 : Int32) (I : (Nat → Nat → Int32)), r_season_34 F z g1 g2 k l3 l4 I = some r → V l D E B yX12_season cX12_season 6 (some .int) 7 0 0 Q 0 0 (n, T, r.2.2, J, P) 74 [(0, some (.ref z)), (1, some (.int g1)), (2, some (.int g2)), (3, some (.int (r.1))), (4, some (.int (r.2.1)))] [] → V l D E B yX12_season cX12_season 6 (some .int) 7 0 0 Q 0 0 (n, T, I, J, P) 34 [(0, some (.ref z)), (1, some (.int g1)), (2, some (.int g2)), (3, some (.int l3)), (4, some (.int l4))] [] := by
  intro k
  induction k with
  | zero =>
    intro l3 l4 I hf hk
    cases hf
  | succ k ih =>
    intro l3 l4 I hf hk
    unfold r_season_34 at hf
    refine V.iload dX12_season_34 rfl ?_
    refine V.iload_n dX12_season_36 rfl ?_
    refine V.icmp_ge 74 dX12_season_37 (by decide) (fun c9 => ?_) (fun c9 => ?_)
    · rw [if_pos c9] at hf
      obtain rfl := Option.some.inj hf
      exact V.lo [(0, some (.ref z)), (1, some (.int g1)), (2, some (.int g2)), (3, some (.int l3)), (4, some (.int l4))] (by simp only [Subs]; repeat' first | exact trivial | constructor | rfl) hk
    · rw [if_neg c9] at hf
      refine V.aload_n dX12_season_40 rfl ?_
      obtain ⟨⟨u12, I13⟩, hk11, hf⟩ := bnd_some hf
      try dsimp only at hf
      refine V.inv cv_X12_339 (c_r_drawn hs_z hk11) dX12_season_41 (hs_z.1 0 (12, 0) rfl) (by decide) rfl rfl rfl (Nat.le_of_ble_eq_true rfl) (by decide) (by decide) (Nat.le_refl _) (Nat.le_refl _) (fun _ _ hq => ?_)
      obtain ⟨rfl, rfl⟩ := hq
      try dsimp only
      refine V.istore dX12_season_44 (by decide) (by first | exact rfl | exact trivial) ?_
      refine V.aload_n dX12_season_46 rfl ?_
      refine V.iload dX12_season_47 rfl ?_
      refine V.i2l dX12_season_49 ?_
      obtain ⟨u16, hk15, hf⟩ := bnd_some hf
      try dsimp only at hf
      refine V.inv cv_X12_310 (c_r_whyNot hs_z hk15) dX12_season_50 (hs_z.1 0 (12, 0) rfl) (by decide) rfl rfl rfl (Nat.le_of_ble_eq_true rfl) (by decide) (by decide) (Nat.le_refl _) (Nat.le_refl _) (fun _ _ hq => ?_)
      obtain ⟨rfl, rfl⟩ := hq
      refine V.if_eq 59 dX12_season_53 (by decide) (fun c17 => ?_) (fun c17 => ?_)
      · rw [if_pos c17] at hf
        refine V.aload_n dX12_season_59 rfl ?_
        refine V.iload dX12_season_60 rfl ?_
        obtain ⟨I20, hk19, hf⟩ := bnd_some hf
        try dsimp only at hf
        refine V.inv cv_X12_313 (c_r_does hs_z hk19) dX12_season_62 (hs_z.1 0 (12, 0) rfl) (by decide) rfl rfl rfl (Nat.le_of_ble_eq_true rfl) (by decide) (by decide) (Nat.le_refl _) (Nat.le_refl _) (fun _ _ hq => ?_)
        obtain ⟨rfl, rfl⟩ := hq
        refine V.iinc (v := (l3 + 1)) dX12_season_65 rfl rfl (by first | exact rfl | exact trivial) ?_
        refine V.iinc (v := (l4 + 1)) dX12_season_68 rfl rfl (by first | exact rfl | exact trivial) ?_
        refine V.goto 34 dX12_season_71 (by decide) ?_
        exact V.lo [(0, some (.ref z)), (1, some (.int g1)), (2, some (.int g2)), (3, some (.int (l3 + 1))), (4, some (.int (l4 + 1)))] (by simp only [Subs]; repeat' first | exact trivial | constructor | rfl) (ih _ _ _ hf hk)
      · rw [if_neg c17] at hf
        refine V.goto 68 dX12_season_56 (by decide) ?_
        refine V.iinc (v := (l4 + 1)) dX12_season_68 rfl rfl (by first | exact rfl | exact trivial) ?_
        refine V.goto 34 dX12_season_71 (by decide) ?_
        exact V.lo [(0, some (.ref z)), (1, some (.int g1)), (2, some (.int g2)), (3, some (.int l3)), (4, some (.int (l4 + 1)))] (by simp only [Subs]; repeat' first | exact trivial | constructor | rfl) (ih _ _ _ hf hk)
theorem c_r_season {l : Launch} {D : va_G} {E : Nat → ClassId} {B : Nat → Prop} {n F : Nat} {T : Nat → Option (Nat × Nat)} {I : Nat → Nat → Int32} {J : Nat → Nat → Int64} {P : Nat → Nat → Option Nat} {z : Nat} {v1 : Int32} {v2 : Int32} {r : Int32 × (Nat → Nat → Int32)} (hs_z : isMd T P z) (hf : r_season F I z v1 v2 = some r) : Ct l D E B yX12_season cX12_season 6 (some .int) 7 0 0 [.ref z, .int v1, .int v2] (n, T, I, J, P) (Ret (some (.int r.1)) (n, T, r.2, J, P)) := by
  unfold r_season at hf
  refine Ct.ofV (by decide) (Nat.le_of_ble_eq_true rfl) ?_
  refine V.aload_n dX12_season_0 rfl ?_
  refine V.iconst (v := 0) dX12_season_1 (by decide) ?_
  refine V.putiE fl_X12_1 dX12_season_2 (hs_z.1 0 (12, 0) rfl) (by decide) (fun h => by cases h) rfl rfl rfl (Nat.le_of_ble_eq_true rfl) (fun I1 e2 => ?_)
  rw [← e2] at hf
  try dsimp only at hf
  clear e2
  refine V.iload_n dX12_season_5 rfl ?_
  refine V.i2l dX12_season_6 ?_
  refine V.lconst (v := 1) dX12_season_7 (by decide) ?_
  refine V.ldc2 dX12_season_8 kc_X12_337 ?_
  refine V.ins cs_X12_145 (c_r_within) dX12_season_11 rfl rfl (Nat.le_of_ble_eq_true rfl) (by decide) (by decide) (Nat.le_refl _) (Nat.le_refl _) (fun _ _ hq => ?_)
  obtain ⟨rfl, rfl⟩ := hq
  refine V.if_ne 20 dX12_season_14 (by decide) (fun c3 => ?_) (fun c3 => ?_)
  · rw [if_neg c3] at hf
    refine V.aload_n dX12_season_20 rfl ?_
    obtain ⟨I6, hk5, hf⟩ := bnd_some hf
    try dsimp only at hf
    refine V.inv cv_X12_264 (c_r_keeps hs_z hk5) dX12_season_21 (hs_z.1 0 (12, 0) rfl) (by decide) rfl rfl rfl (Nat.le_of_ble_eq_true rfl) (by decide) (by decide) (Nat.le_refl _) (Nat.le_refl _) (fun _ _ hq => ?_)
    obtain ⟨rfl, rfl⟩ := hq
    refine V.aload_n dX12_season_24 rfl ?_
    refine V.iload_n dX12_season_25 rfl ?_
    refine V.putiE fl_X12_331 dX12_season_26 (hs_z.1 0 (12, 0) rfl) (by decide) (fun h => by cases h) rfl rfl rfl (Nat.le_of_ble_eq_true rfl) (fun I7 e8 => ?_)
    rw [← e8] at hf
    try dsimp only at hf
    clear e8
    refine V.iconst (v := 0) dX12_season_29 (by decide) ?_
    refine V.istore_n dX12_season_30 rfl (by decide) (by first | exact rfl | exact trivial) ?_
    refine V.iconst (v := 0) dX12_season_31 (by decide) ?_
    refine V.istore dX12_season_32 (by decide) (by first | exact rfl | exact trivial) ?_
    obtain ⟨⟨m23, m24, I25⟩, hk22, hf⟩ := bnd_some hf
    try dsimp only at hf
    refine V.lo [(0, some (.ref z)), (1, some (.int v1)), (2, some (.int v2)), (3, some (.int 0)), (4, some (.int 0))] (by simp only [Subs]; repeat' first | exact trivial | constructor | rfl) (l_r_season_34 hs_z _ F _ _ _ hk22 ?_)
    try dsimp only
    refine V.iload_n dX12_season_74 rfl ?_
    refine V.if_le 82 dX12_season_75 (by decide) (fun c26 => ?_) (fun c26 => ?_)
    · rw [if_pos c26] at hf
      refine V.iload_n dX12_season_82 rfl ?_
      obtain rfl := Option.some.inj hf
      exact V.iret dX12_season_83 rfl (Nat.le_refl _) (Nat.le_refl _) ⟨rfl, rfl⟩
    · rw [if_neg c26] at hf
      refine V.aload_n dX12_season_78 rfl ?_
      obtain ⟨I29, hk28, hf⟩ := bnd_some hf
      try dsimp only at hf
      refine V.inv cv_X12_270 (c_r_notes hs_z hk28) dX12_season_79 (hs_z.1 0 (12, 0) rfl) (by decide) rfl rfl rfl (Nat.le_of_ble_eq_true rfl) (by decide) (by decide) (Nat.le_refl _) (Nat.le_refl _) (fun _ _ hq => ?_)
      obtain ⟨rfl, rfl⟩ := hq
      refine V.iload_n dX12_season_82 rfl ?_
      obtain rfl := Option.some.inj hf
      exact V.iret dX12_season_83 rfl (Nat.le_refl _) (Nat.le_refl _) ⟨rfl, rfl⟩
  · rw [if_pos c3] at hf
    refine V.bipush (v := -3) dX12_season_17 (by decide) ?_
    obtain rfl := Option.some.inj hf
    exact V.iret dX12_season_19 rfl (Nat.le_refl _) (Nat.le_refl _) ⟨rfl, rfl⟩
theorem dX12_noNight_0 : decode cX12_noNight 0 = .ok (.aload_n 0, 1) := by decide +kernel
theorem dX12_noNight_1 : decode cX12_noNight 1 = .ok (.iload_n 1, 1) := by decide +kernel
theorem dX12_noNight_2 : decode cX12_noNight 2 = .ok (.invokevirtual 318, 3) := by decide +kernel
theorem dX12_noNight_5 : decode cX12_noNight 5 = .ok (.istore_n 2, 1) := by decide +kernel
theorem dX12_noNight_6 : decode cX12_noNight 6 = .ok (.iload_n 2, 1) := by decide +kernel
theorem dX12_noNight_7 : decode cX12_noNight 7 = .ok (.ifCond .eq 5, 3) := by decide +kernel
theorem dX12_noNight_10 : decode cX12_noNight 10 = .ok (.iload_n 2, 1) := by decide +kernel
theorem dX12_noNight_11 : decode cX12_noNight 11 = .ok (.ireturn, 1) := by decide +kernel
theorem dX12_noNight_12 : decode cX12_noNight 12 = .ok (.aload_n 0, 1) := by decide +kernel
theorem dX12_noNight_13 : decode cX12_noNight 13 = .ok (.getfield 73, 3) := by decide +kernel
theorem dX12_noNight_16 : decode cX12_noNight 16 = .ok (.iload_n 1, 1) := by decide +kernel
theorem dX12_noNight_17 : decode cX12_noNight 17 = .ok (.iaload, 1) := by decide +kernel
theorem dX12_noNight_18 : decode cX12_noNight 18 = .ok (.bipush 30, 2) := by decide +kernel
theorem dX12_noNight_20 : decode cX12_noNight 20 = .ok (.if_icmp .le 6, 3) := by decide +kernel
theorem dX12_noNight_23 : decode cX12_noNight 23 = .ok (.bipush (-4), 2) := by decide +kernel
theorem dX12_noNight_25 : decode cX12_noNight 25 = .ok (.ireturn, 1) := by decide +kernel
theorem dX12_noNight_26 : decode cX12_noNight 26 = .ok (.iconst 0, 1) := by decide +kernel
theorem dX12_noNight_27 : decode cX12_noNight 27 = .ok (.istore_n 3, 1) := by decide +kernel
theorem dX12_noNight_28 : decode cX12_noNight 28 = .ok (.iload_n 3, 1) := by decide +kernel
theorem dX12_noNight_29 : decode cX12_noNight 29 = .ok (.aload_n 0, 1) := by decide +kernel
theorem dX12_noNight_30 : decode cX12_noNight 30 = .ok (.getfield 73, 3) := by decide +kernel
theorem dX12_noNight_33 : decode cX12_noNight 33 = .ok (.iload_n 1, 1) := by decide +kernel
theorem dX12_noNight_34 : decode cX12_noNight 34 = .ok (.iaload, 1) := by decide +kernel
theorem dX12_noNight_35 : decode cX12_noNight 35 = .ok (.if_icmp .ge 30, 3) := by decide +kernel
theorem dX12_noNight_38 : decode cX12_noNight 38 = .ok (.aload_n 0, 1) := by decide +kernel
theorem dX12_noNight_39 : decode cX12_noNight 39 = .ok (.aload_n 0, 1) := by decide +kernel
theorem dX12_noNight_40 : decode cX12_noNight 40 = .ok (.getfield 76, 3) := by decide +kernel
theorem dX12_noNight_43 : decode cX12_noNight 43 = .ok (.bipush 40, 2) := by decide +kernel
theorem dX12_noNight_45 : decode cX12_noNight 45 = .ok (.iload_n 1, 1) := by decide +kernel
theorem dX12_noNight_46 : decode cX12_noNight 46 = .ok (.imul, 1) := by decide +kernel
theorem dX12_noNight_47 : decode cX12_noNight 47 = .ok (.iload_n 3, 1) := by decide +kernel
theorem dX12_noNight_48 : decode cX12_noNight 48 = .ok (.iadd, 1) := by decide +kernel
theorem dX12_noNight_49 : decode cX12_noNight 49 = .ok (.laload, 1) := by decide +kernel
theorem dX12_noNight_50 : decode cX12_noNight 50 = .ok (.invokevirtual 248, 3) := by decide +kernel
theorem dX12_noNight_53 : decode cX12_noNight 53 = .ok (.ifCond .ne 6, 3) := by decide +kernel
theorem dX12_noNight_56 : decode cX12_noNight 56 = .ok (.bipush (-3), 2) := by decide +kernel
theorem dX12_noNight_58 : decode cX12_noNight 58 = .ok (.ireturn, 1) := by decide +kernel
theorem dX12_noNight_59 : decode cX12_noNight 59 = .ok (.iinc 3 1, 3) := by decide +kernel
theorem dX12_noNight_62 : decode cX12_noNight 62 = .ok (.goto (-34), 3) := by decide +kernel
theorem dX12_noNight_65 : decode cX12_noNight 65 = .ok (.iconst 0, 1) := by decide +kernel
theorem dX12_noNight_66 : decode cX12_noNight 66 = .ok (.ireturn, 1) := by decide +kernel
def r_noNight_28 (F : Nat) (I : Nat → Nat → Int32) (J : Nat → Nat → Int64) (z : Nat) (g1 : Int32) (g2 : Int32) : Nat → Int32 → Option ((Int32) ⊕ (Int32))
  | 0, _ => none
  | k + 1, l3 => chk g1 4 (if (I (z + 19) (Int32.toNatClampNeg g1)) ≤ l3 then (some (.inr l3)) else (chk ((40 * g1) + l3) 160 ((r_isTune I z (J (z + 20) (Int32.toNatClampNeg ((40 * g1) + l3)))).bind (fun q10 => let u12 := q10; if u12 = 0 then (some (.inl (-3))) else (r_noNight_28 F I J z g1 g2 k (l3 + 1))))))
def r_noNight (F : Nat) (I : Nat → Nat → Int32) (J : Nat → Nat → Int64) (z : Nat) (v1 : Int32) : Option (Int32) := (r_noTray I z v1).bind (fun q1 => let u3 := q1; if u3 = 0 then (chk v1 4 (if (I (z + 19) (Int32.toNatClampNeg v1)) ≤ 30 then ((r_noNight_28 F I J z v1 u3 F 0).bind (fun q14 => match q14 with | .inl r0 => some r0 | .inr q0 => let m16 := q0; some 0)) else (some (-4)))) else (some u3))
theorem l_r_noNight_28 {l : Launch} {D : va_G} {E : Nat → ClassId} {B : Nat → Prop} {n F : Nat} {Q : Option Value → HT → Prop} {T : Nat → Option (Nat × Nat)} {I : Nat → Nat → Int32} {J : Nat → Nat → Int64} {P : Nat → Nat → Option Nat} {z : Nat} {g1 : Int32} {g2 : Int32} (hs_z : isMd T P z)  (r : (Int32) ⊕ (Int32)) : ∀ (k : Nat) (l3 : Int32), r_noNight_28 F I J z g1 g2 k l3 = some r → (match r with | .inl r => Q (some (.int r)) (n, T, I, J, P) | .inr r => V l D E B yX12_noNight cX12_noNight 4 (some .int) 2 0 0 Q 0 0 (n, T, I, J, P) 65 [(0, some (.ref z)), (1, some (.int g1)), (2, some (.int g2)), (3, some (.int r))] []) → V l D E B yX12_noNight cX12_noNight 4 (some .int) 2 0 0 Q 0 0 (n, T, I, J, P) 28 [(0, some (.ref z)), (1, some (.int g1)), (2, some (.int g2)), (3, some (.int l3))] [] := by
  intro k
  induction k with
  | zero =>
    intro l3 hf hk
    cases hf
  | succ k ih =>
    intro l3 hf hk
    unfold r_noNight_28 at hf
    refine V.iload_n dX12_noNight_28 rfl ?_
    refine V.aload_n dX12_noNight_29 rfl ?_
    refine V.getr fl_X12_73 dX12_noNight_30 (hs_z.1 0 (12, 0) rfl) (hs_z.2 0 34 19 rfl) (by decide) rfl ?_
    refine V.iload_n dX12_noNight_33 rfl ?_
    obtain ⟨hb7, hf⟩ := chk_some hf
    refine V.iald dX12_noNight_34 (hs_z.1 19 (20, 4) rfl) hb7 ?_
    refine V.icmp_ge 65 dX12_noNight_35 (by decide) (fun c8 => ?_) (fun c8 => ?_)
    · rw [if_pos c8] at hf
      obtain rfl := Option.some.inj hf
      exact V.lo [(0, some (.ref z)), (1, some (.int g1)), (2, some (.int g2)), (3, some (.int l3))] (by simp only [Subs]; repeat' first | exact trivial | constructor | rfl) hk
    · rw [if_neg c8] at hf
      refine V.aload_n dX12_noNight_38 rfl ?_
      refine V.aload_n dX12_noNight_39 rfl ?_
      refine V.getr fl_X12_76 dX12_noNight_40 (hs_z.1 0 (12, 0) rfl) (hs_z.2 0 35 20 rfl) (by decide) rfl ?_
      refine V.bipush (v := 40) dX12_noNight_43 (by decide) ?_
      refine V.iload_n dX12_noNight_45 rfl ?_
      refine V.imul dX12_noNight_46 ?_
      refine V.iload_n dX12_noNight_47 rfl ?_
      refine V.iadd dX12_noNight_48 ?_
      obtain ⟨hb9, hf⟩ := chk_some hf
      refine V.lald dX12_noNight_49 (hs_z.1 20 (22, 160) rfl) hb9 ?_
      obtain ⟨u12, hk11, hf⟩ := bnd_some hf
      try dsimp only at hf
      refine V.inv cv_X12_248 (c_r_isTune hs_z hk11) dX12_noNight_50 (hs_z.1 0 (12, 0) rfl) (by decide) rfl rfl rfl (Nat.le_of_ble_eq_true rfl) (by decide) (by decide) (Nat.le_refl _) (Nat.le_refl _) (fun _ _ hq => ?_)
      obtain ⟨rfl, rfl⟩ := hq
      refine V.if_ne 59 dX12_noNight_53 (by decide) (fun c13 => ?_) (fun c13 => ?_)
      · rw [if_neg c13] at hf
        refine V.iinc (v := (l3 + 1)) dX12_noNight_59 rfl rfl (by first | exact rfl | exact trivial) ?_
        refine V.goto 28 dX12_noNight_62 (by decide) ?_
        exact V.lo [(0, some (.ref z)), (1, some (.int g1)), (2, some (.int g2)), (3, some (.int (l3 + 1)))] (by simp only [Subs]; repeat' first | exact trivial | constructor | rfl) (ih _ hf hk)
      · rw [if_pos c13] at hf
        refine V.bipush (v := -3) dX12_noNight_56 (by decide) ?_
        obtain rfl := Option.some.inj hf
        exact V.iret dX12_noNight_58 rfl (Nat.le_refl _) (Nat.le_refl _) hk
theorem c_r_noNight {l : Launch} {D : va_G} {E : Nat → ClassId} {B : Nat → Prop} {n F : Nat} {T : Nat → Option (Nat × Nat)} {I : Nat → Nat → Int32} {J : Nat → Nat → Int64} {P : Nat → Nat → Option Nat} {z : Nat} {v1 : Int32} {r : Int32} (hs_z : isMd T P z) (hf : r_noNight F I J z v1 = some r) : Ct l D E B yX12_noNight cX12_noNight 4 (some .int) 2 0 0 [.ref z, .int v1] (n, T, I, J, P) (Ret (some (.int r)) (n, T, I, J, P)) := by
  unfold r_noNight at hf
  refine Ct.ofV (by decide) (Nat.le_of_ble_eq_true rfl) ?_
  refine V.aload_n dX12_noNight_0 rfl ?_
  refine V.iload_n dX12_noNight_1 rfl ?_
  obtain ⟨u3, hk2, hf⟩ := bnd_some hf
  try dsimp only at hf
  refine V.inv cv_X12_318 (c_r_noTray hs_z hk2) dX12_noNight_2 (hs_z.1 0 (12, 0) rfl) (by decide) rfl rfl rfl (Nat.le_of_ble_eq_true rfl) (by decide) (by decide) (Nat.le_refl _) (Nat.le_refl _) (fun _ _ hq => ?_)
  obtain ⟨rfl, rfl⟩ := hq
  refine V.istore_n dX12_noNight_5 rfl (by decide) (by first | exact rfl | exact trivial) ?_
  refine V.iload_n dX12_noNight_6 rfl ?_
  refine V.if_eq 12 dX12_noNight_7 (by decide) (fun c4 => ?_) (fun c4 => ?_)
  · rw [if_pos c4] at hf
    refine V.aload_n dX12_noNight_12 rfl ?_
    refine V.getr fl_X12_73 dX12_noNight_13 (hs_z.1 0 (12, 0) rfl) (hs_z.2 0 34 19 rfl) (by decide) rfl ?_
    refine V.iload_n dX12_noNight_16 rfl ?_
    obtain ⟨hb5, hf⟩ := chk_some hf
    refine V.iald dX12_noNight_17 (hs_z.1 19 (20, 4) rfl) hb5 ?_
    refine V.bipush (v := 30) dX12_noNight_18 (by decide) ?_
    refine V.icmp_le 26 dX12_noNight_20 (by decide) (fun c6 => ?_) (fun c6 => ?_)
    · rw [if_pos c6] at hf
      refine V.iconst (v := 0) dX12_noNight_26 (by decide) ?_
      refine V.istore_n dX12_noNight_27 rfl (by decide) (by first | exact rfl | exact trivial) ?_
      obtain ⟨q14, hk15, hf⟩ := bnd_some hf
      refine V.lo [(0, some (.ref z)), (1, some (.int v1)), (2, some (.int u3)), (3, some (.int 0))] (by simp only [Subs]; repeat' first | exact trivial | constructor | rfl) (l_r_noNight_28 hs_z q14 F _ hk15 ?_)
      rcases q14 with r0 | m16
      · try dsimp only at hf ⊢
        obtain rfl := Option.some.inj hf
        exact ⟨rfl, rfl⟩
      · try dsimp only at hf ⊢
        refine V.iconst (v := 0) dX12_noNight_65 (by decide) ?_
        obtain rfl := Option.some.inj hf
        exact V.iret dX12_noNight_66 rfl (Nat.le_refl _) (Nat.le_refl _) ⟨rfl, rfl⟩
    · rw [if_neg c6] at hf
      refine V.bipush (v := -4) dX12_noNight_23 (by decide) ?_
      obtain rfl := Option.some.inj hf
      exact V.iret dX12_noNight_25 rfl (Nat.le_refl _) (Nat.le_refl _) ⟨rfl, rfl⟩
  · rw [if_neg c4] at hf
    refine V.iload_n dX12_noNight_10 rfl ?_
    obtain rfl := Option.some.inj hf
    exact V.iret dX12_noNight_11 rfl (Nat.le_refl _) (Nat.le_refl _) ⟨rfl, rfl⟩
theorem dX12_noNightOf_0 : decode cX12_noNightOf 0 = .ok (.iload_n 1, 1) := by decide +kernel
theorem dX12_noNightOf_1 : decode cX12_noNightOf 1 = .ok (.i2l, 1) := by decide +kernel
theorem dX12_noNightOf_2 : decode cX12_noNightOf 2 = .ok (.lconst 0, 1) := by decide +kernel
theorem dX12_noNightOf_3 : decode cX12_noNightOf 3 = .ok (.ldc2_w 316, 3) := by decide +kernel
theorem dX12_noNightOf_6 : decode cX12_noNightOf 6 = .ok (.invokestatic 145, 3) := by decide +kernel
theorem dX12_noNightOf_9 : decode cX12_noNightOf 9 = .ok (.ifCond .eq 12, 3) := by decide +kernel
theorem dX12_noNightOf_12 : decode cX12_noNightOf 12 = .ok (.aload_n 0, 1) := by decide +kernel
theorem dX12_noNightOf_13 : decode cX12_noNightOf 13 = .ok (.iload_n 2, 1) := by decide +kernel
theorem dX12_noNightOf_14 : decode cX12_noNightOf 14 = .ok (.i2l, 1) := by decide +kernel
theorem dX12_noNightOf_15 : decode cX12_noNightOf 15 = .ok (.invokevirtual 210, 3) := by decide +kernel
theorem dX12_noNightOf_18 : decode cX12_noNightOf 18 = .ok (.ifCond .ne 8, 3) := by decide +kernel
theorem dX12_noNightOf_21 : decode cX12_noNightOf 21 = .ok (.bipush (-2), 2) := by decide +kernel
theorem dX12_noNightOf_23 : decode cX12_noNightOf 23 = .ok (.goto 8, 3) := by decide +kernel
theorem dX12_noNightOf_26 : decode cX12_noNightOf 26 = .ok (.aload_n 0, 1) := by decide +kernel
theorem dX12_noNightOf_27 : decode cX12_noNightOf 27 = .ok (.iload_n 1, 1) := by decide +kernel
theorem dX12_noNightOf_28 : decode cX12_noNightOf 28 = .ok (.invokevirtual 342, 3) := by decide +kernel
theorem dX12_noNightOf_31 : decode cX12_noNightOf 31 = .ok (.ireturn, 1) := by decide +kernel
def r_noNightOf (F : Nat) (I : Nat → Nat → Int32) (J : Nat → Nat → Int64) (z : Nat) (v1 : Int32) (v2 : Int32) : Option (Int32) := if (r_within (Int32.toInt64 v1) 0 3) = 0 then (some (-2)) else ((r_isPerson I z (Int32.toInt64 v2)).bind (fun q2 => let u4 := q2; if u4 = 0 then (some (-2)) else ((r_noNight F I J z v1).bind (fun q6 => let u8 := q6; some u8))))
theorem c_r_noNightOf {l : Launch} {D : va_G} {E : Nat → ClassId} {B : Nat → Prop} {n F : Nat} {T : Nat → Option (Nat × Nat)} {I : Nat → Nat → Int32} {J : Nat → Nat → Int64} {P : Nat → Nat → Option Nat} {z : Nat} {v1 : Int32} {v2 : Int32} {r : Int32} (hs_z : isMd T P z) (hf : r_noNightOf F I J z v1 v2 = some r) : Ct l D E B yX12_noNightOf cX12_noNightOf 3 (some .int) 3 0 0 [.ref z, .int v1, .int v2] (n, T, I, J, P) (Ret (some (.int r)) (n, T, I, J, P)) := by
  unfold r_noNightOf at hf
  refine Ct.ofV (by decide) (Nat.le_of_ble_eq_true rfl) ?_
  refine V.iload_n dX12_noNightOf_0 rfl ?_
  refine V.i2l dX12_noNightOf_1 ?_
  refine V.lconst (v := 0) dX12_noNightOf_2 (by decide) ?_
  refine V.ldc2 dX12_noNightOf_3 kc_X12_316 ?_
  refine V.ins cs_X12_145 (c_r_within) dX12_noNightOf_6 rfl rfl (Nat.le_of_ble_eq_true rfl) (by decide) (by decide) (Nat.le_refl _) (Nat.le_refl _) (fun _ _ hq => ?_)
  obtain ⟨rfl, rfl⟩ := hq
  refine V.if_eq 21 dX12_noNightOf_9 (by decide) (fun c1 => ?_) (fun c1 => ?_)
  · rw [if_pos c1] at hf
    refine V.bipush (v := -2) dX12_noNightOf_21 (by decide) ?_
    refine V.goto 31 dX12_noNightOf_23 (by decide) ?_
    obtain rfl := Option.some.inj hf
    exact V.iret dX12_noNightOf_31 rfl (Nat.le_refl _) (Nat.le_refl _) ⟨rfl, rfl⟩
  · rw [if_neg c1] at hf
    refine V.aload_n dX12_noNightOf_12 rfl ?_
    refine V.iload_n dX12_noNightOf_13 rfl ?_
    refine V.i2l dX12_noNightOf_14 ?_
    obtain ⟨u4, hk3, hf⟩ := bnd_some hf
    try dsimp only at hf
    refine V.inv cv_X12_210 (c_r_isPerson hs_z hk3) dX12_noNightOf_15 (hs_z.1 0 (12, 0) rfl) (by decide) rfl rfl rfl (Nat.le_of_ble_eq_true rfl) (by decide) (by decide) (Nat.le_refl _) (Nat.le_refl _) (fun _ _ hq => ?_)
    obtain ⟨rfl, rfl⟩ := hq
    refine V.if_ne 26 dX12_noNightOf_18 (by decide) (fun c5 => ?_) (fun c5 => ?_)
    · rw [if_neg c5] at hf
      refine V.aload_n dX12_noNightOf_26 rfl ?_
      refine V.iload_n dX12_noNightOf_27 rfl ?_
      obtain ⟨u8, hk7, hf⟩ := bnd_some hf
      try dsimp only at hf
      refine V.inv cv_X12_342 (c_r_noNight hs_z hk7) dX12_noNightOf_28 (hs_z.1 0 (12, 0) rfl) (by decide) rfl rfl rfl (Nat.le_of_ble_eq_true rfl) (by decide) (by decide) (Nat.le_refl _) (Nat.le_refl _) (fun _ _ hq => ?_)
      obtain ⟨rfl, rfl⟩ := hq
      obtain rfl := Option.some.inj hf
      exact V.iret dX12_noNightOf_31 rfl (Nat.le_refl _) (Nat.le_refl _) ⟨rfl, rfl⟩
    · rw [if_pos c5] at hf
      refine V.bipush (v := -2) dX12_noNightOf_21 (by decide) ?_
      refine V.goto 31 dX12_noNightOf_23 (by decide) ?_
      obtain rfl := Option.some.inj hf
      exact V.iret dX12_noNightOf_31 rfl (Nat.le_refl _) (Nat.le_refl _) ⟨rfl, rfl⟩
theorem dX12_noStands_0 : decode cX12_noStands 0 = .ok (.aload_n 0, 1) := by decide +kernel
theorem dX12_noStands_1 : decode cX12_noStands 1 = .ok (.iload_n 1, 1) := by decide +kernel
theorem dX12_noStands_2 : decode cX12_noStands 2 = .ok (.iload_n 2, 1) := by decide +kernel
theorem dX12_noStands_3 : decode cX12_noStands 3 = .ok (.invokevirtual 345, 3) := by decide +kernel
theorem dX12_noStands_6 : decode cX12_noStands 6 = .ok (.istore_n 3, 1) := by decide +kernel
theorem dX12_noStands_7 : decode cX12_noStands 7 = .ok (.iload_n 3, 1) := by decide +kernel
theorem dX12_noStands_8 : decode cX12_noStands 8 = .ok (.ifCond .eq 7, 3) := by decide +kernel
theorem dX12_noStands_11 : decode cX12_noStands 11 = .ok (.iload_n 3, 1) := by decide +kernel
theorem dX12_noStands_12 : decode cX12_noStands 12 = .ok (.goto 17, 3) := by decide +kernel
theorem dX12_noStands_15 : decode cX12_noStands 15 = .ok (.aload_n 0, 1) := by decide +kernel
theorem dX12_noStands_16 : decode cX12_noStands 16 = .ok (.iload_n 2, 1) := by decide +kernel
theorem dX12_noStands_17 : decode cX12_noStands 17 = .ok (.invokevirtual 218, 3) := by decide +kernel
theorem dX12_noStands_20 : decode cX12_noStands 20 = .ok (.ifCond .eq 7, 3) := by decide +kernel
theorem dX12_noStands_23 : decode cX12_noStands 23 = .ok (.iconst 0, 1) := by decide +kernel
theorem dX12_noStands_24 : decode cX12_noStands 24 = .ok (.goto 5, 3) := by decide +kernel
theorem dX12_noStands_27 : decode cX12_noStands 27 = .ok (.bipush (-5), 2) := by decide +kernel
theorem dX12_noStands_29 : decode cX12_noStands 29 = .ok (.ireturn, 1) := by decide +kernel
def r_noStands (F : Nat) (I : Nat → Nat → Int32) (J : Nat → Nat → Int64) (z : Nat) (v1 : Int32) (v2 : Int32) : Option (Int32) := (r_noNightOf F I J z v1 v2).bind (fun q1 => let u3 := q1; if u3 = 0 then ((r_isUp I z v2).bind (fun q5 => let u7 := q5; if u7 = 0 then (some (-5)) else (some 0))) else (some u3))
theorem c_r_noStands {l : Launch} {D : va_G} {E : Nat → ClassId} {B : Nat → Prop} {n F : Nat} {T : Nat → Option (Nat × Nat)} {I : Nat → Nat → Int32} {J : Nat → Nat → Int64} {P : Nat → Nat → Option Nat} {z : Nat} {v1 : Int32} {v2 : Int32} {r : Int32} (hs_z : isMd T P z) (hf : r_noStands F I J z v1 v2 = some r) : Ct l D E B yX12_noStands cX12_noStands 4 (some .int) 4 0 0 [.ref z, .int v1, .int v2] (n, T, I, J, P) (Ret (some (.int r)) (n, T, I, J, P)) := by
  unfold r_noStands at hf
  refine Ct.ofV (by decide) (Nat.le_of_ble_eq_true rfl) ?_
  refine V.aload_n dX12_noStands_0 rfl ?_
  refine V.iload_n dX12_noStands_1 rfl ?_
  refine V.iload_n dX12_noStands_2 rfl ?_
  obtain ⟨u3, hk2, hf⟩ := bnd_some hf
  try dsimp only at hf
  refine V.inv cv_X12_345 (c_r_noNightOf hs_z hk2) dX12_noStands_3 (hs_z.1 0 (12, 0) rfl) (by decide) rfl rfl rfl (Nat.le_of_ble_eq_true rfl) (by decide) (by decide) (Nat.le_refl _) (Nat.le_refl _) (fun _ _ hq => ?_)
  obtain ⟨rfl, rfl⟩ := hq
  refine V.istore_n dX12_noStands_6 rfl (by decide) (by first | exact rfl | exact trivial) ?_
  refine V.iload_n dX12_noStands_7 rfl ?_
  refine V.if_eq 15 dX12_noStands_8 (by decide) (fun c4 => ?_) (fun c4 => ?_)
  · rw [if_pos c4] at hf
    refine V.aload_n dX12_noStands_15 rfl ?_
    refine V.iload_n dX12_noStands_16 rfl ?_
    obtain ⟨u7, hk6, hf⟩ := bnd_some hf
    try dsimp only at hf
    refine V.inv cv_X12_218 (c_r_isUp hs_z hk6) dX12_noStands_17 (hs_z.1 0 (12, 0) rfl) (by decide) rfl rfl rfl (Nat.le_of_ble_eq_true rfl) (by decide) (by decide) (Nat.le_refl _) (Nat.le_refl _) (fun _ _ hq => ?_)
    obtain ⟨rfl, rfl⟩ := hq
    refine V.if_eq 27 dX12_noStands_20 (by decide) (fun c8 => ?_) (fun c8 => ?_)
    · rw [if_pos c8] at hf
      refine V.bipush (v := -5) dX12_noStands_27 (by decide) ?_
      obtain rfl := Option.some.inj hf
      exact V.iret dX12_noStands_29 rfl (Nat.le_refl _) (Nat.le_refl _) ⟨rfl, rfl⟩
    · rw [if_neg c8] at hf
      refine V.iconst (v := 0) dX12_noStands_23 (by decide) ?_
      refine V.goto 29 dX12_noStands_24 (by decide) ?_
      obtain rfl := Option.some.inj hf
      exact V.iret dX12_noStands_29 rfl (Nat.le_refl _) (Nat.le_refl _) ⟨rfl, rfl⟩
  · rw [if_neg c4] at hf
    refine V.iload_n dX12_noStands_11 rfl ?_
    refine V.goto 29 dX12_noStands_12 (by decide) ?_
    obtain rfl := Option.some.inj hf
    exact V.iret dX12_noStands_29 rfl (Nat.le_refl _) (Nat.le_refl _) ⟨rfl, rfl⟩
theorem dX12_goes_0 : decode cX12_goes 0 = .ok (.iload_n 2, 1) := by decide +kernel
theorem dX12_goes_1 : decode cX12_goes 1 = .ok (.istore 4, 2) := by decide +kernel
theorem dX12_goes_3 : decode cX12_goes 3 = .ok (.iload 4, 2) := by decide +kernel
theorem dX12_goes_5 : decode cX12_goes 5 = .ok (.iload_n 3, 1) := by decide +kernel
theorem dX12_goes_6 : decode cX12_goes 6 = .ok (.if_icmp .ge 27, 3) := by decide +kernel
theorem dX12_goes_9 : decode cX12_goes 9 = .ok (.aload_n 0, 1) := by decide +kernel
theorem dX12_goes_10 : decode cX12_goes 10 = .ok (.aload_n 0, 1) := by decide +kernel
theorem dX12_goes_11 : decode cX12_goes 11 = .ok (.getfield 76, 3) := by decide +kernel
theorem dX12_goes_14 : decode cX12_goes 14 = .ok (.bipush 40, 2) := by decide +kernel
theorem dX12_goes_16 : decode cX12_goes 16 = .ok (.iload_n 1, 1) := by decide +kernel
theorem dX12_goes_17 : decode cX12_goes 17 = .ok (.imul, 1) := by decide +kernel
theorem dX12_goes_18 : decode cX12_goes 18 = .ok (.iload 4, 2) := by decide +kernel
theorem dX12_goes_20 : decode cX12_goes 20 = .ok (.iadd, 1) := by decide +kernel
theorem dX12_goes_21 : decode cX12_goes 21 = .ok (.laload, 1) := by decide +kernel
theorem dX12_goes_22 : decode cX12_goes 22 = .ok (.l2i, 1) := by decide +kernel
theorem dX12_goes_23 : decode cX12_goes 23 = .ok (.invokevirtual 267, 3) := by decide +kernel
theorem dX12_goes_26 : decode cX12_goes 26 = .ok (.pop, 1) := by decide +kernel
theorem dX12_goes_27 : decode cX12_goes 27 = .ok (.iinc 4 1, 3) := by decide +kernel
theorem dX12_goes_30 : decode cX12_goes 30 = .ok (.goto (-27), 3) := by decide +kernel
theorem dX12_goes_33 : decode cX12_goes 33 = .ok (.return_, 1) := by decide +kernel
def r_goes_3 (F : Nat) (J : Nat → Nat → Int64) (z : Nat) (g1 : Int32) (g2 : Int32) (g3 : Int32) : Nat → Int32 → (Nat → Nat → Int32) → Option (Int32 × (Nat → Nat → Int32))
  | 0, _, _ => none
  | k + 1, l4, I => if g3 ≤ l4 then (some (l4, I)) else (chk ((40 * g1) + l4) 160 ((r_plays F I z (Int64.toInt32 (J (z + 20) (Int32.toNatClampNeg ((40 * g1) + l4))))).bind (fun q3 => let u5 := q3.1; let I6 := q3.2; r_goes_3 F J z g1 g2 g3 k (l4 + 1) I6)))
def r_goes (F : Nat) (I : Nat → Nat → Int32) (J : Nat → Nat → Int64) (z : Nat) (v1 : Int32) (v2 : Int32) (v3 : Int32) : Option ((Nat → Nat → Int32)) := (r_goes_3 F J z v1 v2 v3 F v2 I).bind (fun q7 => let m9 := q7.1; let I10 := q7.2; some I10)
theorem l_r_goes_3 {l : Launch} {D : va_G} {E : Nat → ClassId} {B : Nat → Prop} {n F : Nat} {Q : Option Value → HT → Prop} {T : Nat → Option (Nat × Nat)} {J : Nat → Nat → Int64} {P : Nat → Nat → Option Nat} {z : Nat} {g1 : Int32} {g2 : Int32} {g3 : Int32} (hs_z : isMd T P z)  (r : Int32 × (Nat → Nat → Int32)) : ∀ (k : Nat) (l4 : Int32) (I : (Nat → Nat → Int32)), r_goes_3 F J z g1 g2 g3 k l4 I = some r → V l D E B yX12_goes cX12_goes 5 none 6 0 0 Q 0 0 (n, T, r.2, J, P) 33 [(0, some (.ref z)), (1, some (.int g1)), (2, some (.int g2)), (3, some (.int g3)), (4, some (.int (r.1)))] [] → V l D E B yX12_goes cX12_goes 5 none 6 0 0 Q 0 0 (n, T, I, J, P) 3 [(0, some (.ref z)), (1, some (.int g1)), (2, some (.int g2)), (3, some (.int g3)), (4, some (.int l4))] [] := by
  intro k
  induction k with
  | zero =>
    intro l4 I hf hk
    cases hf
  | succ k ih =>
    intro l4 I hf hk
    unfold r_goes_3 at hf
    refine V.iload dX12_goes_3 rfl ?_
    refine V.iload_n dX12_goes_5 rfl ?_
    refine V.icmp_ge 33 dX12_goes_6 (by decide) (fun c1 => ?_) (fun c1 => ?_)
    · rw [if_pos c1] at hf
      obtain rfl := Option.some.inj hf
      exact V.lo [(0, some (.ref z)), (1, some (.int g1)), (2, some (.int g2)), (3, some (.int g3)), (4, some (.int l4))] (by simp only [Subs]; repeat' first | exact trivial | constructor | rfl) hk
    · rw [if_neg c1] at hf
      refine V.aload_n dX12_goes_9 rfl ?_
      refine V.aload_n dX12_goes_10 rfl ?_
      refine V.getr fl_X12_76 dX12_goes_11 (hs_z.1 0 (12, 0) rfl) (hs_z.2 0 35 20 rfl) (by decide) rfl ?_
      refine V.bipush (v := 40) dX12_goes_14 (by decide) ?_
      refine V.iload_n dX12_goes_16 rfl ?_
      refine V.imul dX12_goes_17 ?_
      refine V.iload dX12_goes_18 rfl ?_
      refine V.iadd dX12_goes_20 ?_
      obtain ⟨hb2, hf⟩ := chk_some hf
      refine V.lald dX12_goes_21 (hs_z.1 20 (22, 160) rfl) hb2 ?_
      refine V.l2i dX12_goes_22 ?_
      obtain ⟨⟨u5, I6⟩, hk4, hf⟩ := bnd_some hf
      try dsimp only at hf
      refine V.inv cv_X12_267 (c_r_plays hs_z hk4) dX12_goes_23 (hs_z.1 0 (12, 0) rfl) (by decide) rfl rfl rfl (Nat.le_of_ble_eq_true rfl) (by decide) (by decide) (Nat.le_refl _) (Nat.le_refl _) (fun _ _ hq => ?_)
      obtain ⟨rfl, rfl⟩ := hq
      try dsimp only
      refine V.pop dX12_goes_26 rfl ?_
      refine V.iinc (v := (l4 + 1)) dX12_goes_27 rfl rfl (by first | exact rfl | exact trivial) ?_
      refine V.goto 3 dX12_goes_30 (by decide) ?_
      exact V.lo [(0, some (.ref z)), (1, some (.int g1)), (2, some (.int g2)), (3, some (.int g3)), (4, some (.int (l4 + 1)))] (by simp only [Subs]; repeat' first | exact trivial | constructor | rfl) (ih _ _ hf hk)
theorem c_r_goes {l : Launch} {D : va_G} {E : Nat → ClassId} {B : Nat → Prop} {n F : Nat} {T : Nat → Option (Nat × Nat)} {I : Nat → Nat → Int32} {J : Nat → Nat → Int64} {P : Nat → Nat → Option Nat} {z : Nat} {v1 : Int32} {v2 : Int32} {v3 : Int32} {r : (Nat → Nat → Int32)} (hs_z : isMd T P z) (hf : r_goes F I J z v1 v2 v3 = some r) : Ct l D E B yX12_goes cX12_goes 5 none 6 0 0 [.ref z, .int v1, .int v2, .int v3] (n, T, I, J, P) (Ret (none) (n, T, r, J, P)) := by
  unfold r_goes at hf
  refine Ct.ofV (by decide) (Nat.le_of_ble_eq_true rfl) ?_
  refine V.iload_n dX12_goes_0 rfl ?_
  refine V.istore dX12_goes_1 (by decide) (by first | exact rfl | exact trivial) ?_
  obtain ⟨⟨m9, I10⟩, hk8, hf⟩ := bnd_some hf
  try dsimp only at hf
  refine V.lo [(0, some (.ref z)), (1, some (.int v1)), (2, some (.int v2)), (3, some (.int v3)), (4, some (.int v2))] (by simp only [Subs]; repeat' first | exact trivial | constructor | rfl) (l_r_goes_3 hs_z _ F _ _ hk8 ?_)
  try dsimp only
  obtain rfl := Option.some.inj hf
  exact V.vret dX12_goes_33 rfl (Nat.le_refl _) (Nat.le_refl _) ⟨rfl, rfl⟩
theorem dX12_standsIn_0 : decode cX12_standsIn 0 = .ok (.iconst 0, 1) := by decide +kernel
theorem dX12_standsIn_1 : decode cX12_standsIn 1 = .ok (.istore_n 3, 1) := by decide +kernel
theorem dX12_standsIn_2 : decode cX12_standsIn 2 = .ok (.iconst 0, 1) := by decide +kernel
theorem dX12_standsIn_3 : decode cX12_standsIn 3 = .ok (.istore 4, 2) := by decide +kernel
theorem dX12_standsIn_5 : decode cX12_standsIn 5 = .ok (.iload 4, 2) := by decide +kernel
theorem dX12_standsIn_7 : decode cX12_standsIn 7 = .ok (.aload_n 0, 1) := by decide +kernel
theorem dX12_standsIn_8 : decode cX12_standsIn 8 = .ok (.getfield 73, 3) := by decide +kernel
theorem dX12_standsIn_11 : decode cX12_standsIn 11 = .ok (.iload_n 1, 1) := by decide +kernel
theorem dX12_standsIn_12 : decode cX12_standsIn 12 = .ok (.iaload, 1) := by decide +kernel
theorem dX12_standsIn_13 : decode cX12_standsIn 13 = .ok (.if_icmp .ge 43, 3) := by decide +kernel
theorem dX12_standsIn_16 : decode cX12_standsIn 16 = .ok (.aload_n 0, 1) := by decide +kernel
theorem dX12_standsIn_17 : decode cX12_standsIn 17 = .ok (.aload_n 0, 1) := by decide +kernel
theorem dX12_standsIn_18 : decode cX12_standsIn 18 = .ok (.getfield 76, 3) := by decide +kernel
theorem dX12_standsIn_21 : decode cX12_standsIn 21 = .ok (.bipush 40, 2) := by decide +kernel
theorem dX12_standsIn_23 : decode cX12_standsIn 23 = .ok (.iload_n 1, 1) := by decide +kernel
theorem dX12_standsIn_24 : decode cX12_standsIn 24 = .ok (.imul, 1) := by decide +kernel
theorem dX12_standsIn_25 : decode cX12_standsIn 25 = .ok (.iload 4, 2) := by decide +kernel
theorem dX12_standsIn_27 : decode cX12_standsIn 27 = .ok (.iadd, 1) := by decide +kernel
theorem dX12_standsIn_28 : decode cX12_standsIn 28 = .ok (.laload, 1) := by decide +kernel
theorem dX12_standsIn_29 : decode cX12_standsIn 29 = .ok (.l2i, 1) := by decide +kernel
theorem dX12_standsIn_30 : decode cX12_standsIn 30 = .ok (.invokevirtual 267, 3) := by decide +kernel
theorem dX12_standsIn_33 : decode cX12_standsIn 33 = .ok (.pop, 1) := by decide +kernel
theorem dX12_standsIn_34 : decode cX12_standsIn 34 = .ok (.iload_n 3, 1) := by decide +kernel
theorem dX12_standsIn_35 : decode cX12_standsIn 35 = .ok (.aload_n 0, 1) := by decide +kernel
theorem dX12_standsIn_36 : decode cX12_standsIn 36 = .ok (.iload_n 2, 1) := by decide +kernel
theorem dX12_standsIn_37 : decode cX12_standsIn 37 = .ok (.invokevirtual 218, 3) := by decide +kernel
theorem dX12_standsIn_40 : decode cX12_standsIn 40 = .ok (.ifCond .eq 7, 3) := by decide +kernel
theorem dX12_standsIn_43 : decode cX12_standsIn 43 = .ok (.iconst 1, 1) := by decide +kernel
theorem dX12_standsIn_44 : decode cX12_standsIn 44 = .ok (.goto 4, 3) := by decide +kernel
theorem dX12_standsIn_47 : decode cX12_standsIn 47 = .ok (.iconst 0, 1) := by decide +kernel
theorem dX12_standsIn_48 : decode cX12_standsIn 48 = .ok (.iadd, 1) := by decide +kernel
theorem dX12_standsIn_49 : decode cX12_standsIn 49 = .ok (.istore_n 3, 1) := by decide +kernel
theorem dX12_standsIn_50 : decode cX12_standsIn 50 = .ok (.iinc 4 1, 3) := by decide +kernel
theorem dX12_standsIn_53 : decode cX12_standsIn 53 = .ok (.goto (-48), 3) := by decide +kernel
theorem dX12_standsIn_56 : decode cX12_standsIn 56 = .ok (.iload_n 3, 1) := by decide +kernel
theorem dX12_standsIn_57 : decode cX12_standsIn 57 = .ok (.ireturn, 1) := by decide +kernel
def r_standsIn_5 (F : Nat) (J : Nat → Nat → Int64) (z : Nat) (g1 : Int32) (g2 : Int32) : Nat → Int32 → Int32 → (Nat → Nat → Int32) → Option (Int32 × Int32 × (Nat → Nat → Int32))
  | 0, _, _, _ => none
  | k + 1, l3, l4, I => chk g1 4 (if (I (z + 19) (Int32.toNatClampNeg g1)) ≤ l4 then (some (l3, l4, I)) else (chk ((40 * g1) + l4) 160 ((r_plays F I z (Int64.toInt32 (J (z + 20) (Int32.toNatClampNeg ((40 * g1) + l4))))).bind (fun q4 => let u6 := q4.1; let I7 := q4.2; (r_isUp I7 z g2).bind (fun q8 => let u10 := q8; if u10 = 0 then (let x12 := (l3 + 0); r_standsIn_5 F J z g1 g2 k x12 (l4 + 1) I7) else (let x14 := (l3 + 1); r_standsIn_5 F J z g1 g2 k x14 (l4 + 1) I7))))))
def r_standsIn (F : Nat) (I : Nat → Nat → Int32) (J : Nat → Nat → Int64) (z : Nat) (v1 : Int32) (v2 : Int32) : Option (Int32 × (Nat → Nat → Int32)) := (r_standsIn_5 F J z v1 v2 F 0 0 I).bind (fun q16 => let m18 := q16.1; let m19 := q16.2.1; let I20 := q16.2.2; some (m18, I20))
theorem l_r_standsIn_5 {l : Launch} {D : va_G} {E : Nat → ClassId} {B : Nat → Prop} {n F : Nat} {Q : Option Value → HT → Prop} {T : Nat → Option (Nat × Nat)} {J : Nat → Nat → Int64} {P : Nat → Nat → Option Nat} {z : Nat} {g1 : Int32} {g2 : Int32} (hs_z : isMd T P z)  (r : Int32 × Int32 × (Nat → Nat → Int32)) : ∀ (k : Nat) (l3 : Int32) (l4 : Int32) (I : (Nat → Nat → Int32)), r_standsIn_5 F J z g1 g2 k l3 l4 I = some r → V l D E B yX12_standsIn cX12_standsIn 5 (some .int) 6 0 0 Q 0 0 (n, T, r.2.2, J, P) 56 [(0, some (.ref z)), (1, some (.int g1)), (2, some (.int g2)), (3, some (.int (r.1))), (4, some (.int (r.2.1)))] [] → V l D E B yX12_standsIn cX12_standsIn 5 (some .int) 6 0 0 Q 0 0 (n, T, I, J, P) 5 [(0, some (.ref z)), (1, some (.int g1)), (2, some (.int g2)), (3, some (.int l3)), (4, some (.int l4))] [] := by
  intro k
  induction k with
  | zero =>
    intro l3 l4 I hf hk
    cases hf
  | succ k ih =>
    intro l3 l4 I hf hk
    unfold r_standsIn_5 at hf
    refine V.iload dX12_standsIn_5 rfl ?_
    refine V.aload_n dX12_standsIn_7 rfl ?_
    refine V.getr fl_X12_73 dX12_standsIn_8 (hs_z.1 0 (12, 0) rfl) (hs_z.2 0 34 19 rfl) (by decide) rfl ?_
    refine V.iload_n dX12_standsIn_11 rfl ?_
    obtain ⟨hb1, hf⟩ := chk_some hf
    refine V.iald dX12_standsIn_12 (hs_z.1 19 (20, 4) rfl) hb1 ?_
    refine V.icmp_ge 56 dX12_standsIn_13 (by decide) (fun c2 => ?_) (fun c2 => ?_)
    · rw [if_pos c2] at hf
      obtain rfl := Option.some.inj hf
      exact V.lo [(0, some (.ref z)), (1, some (.int g1)), (2, some (.int g2)), (3, some (.int l3)), (4, some (.int l4))] (by simp only [Subs]; repeat' first | exact trivial | constructor | rfl) hk
    · rw [if_neg c2] at hf
      refine V.aload_n dX12_standsIn_16 rfl ?_
      refine V.aload_n dX12_standsIn_17 rfl ?_
      refine V.getr fl_X12_76 dX12_standsIn_18 (hs_z.1 0 (12, 0) rfl) (hs_z.2 0 35 20 rfl) (by decide) rfl ?_
      refine V.bipush (v := 40) dX12_standsIn_21 (by decide) ?_
      refine V.iload_n dX12_standsIn_23 rfl ?_
      refine V.imul dX12_standsIn_24 ?_
      refine V.iload dX12_standsIn_25 rfl ?_
      refine V.iadd dX12_standsIn_27 ?_
      obtain ⟨hb3, hf⟩ := chk_some hf
      refine V.lald dX12_standsIn_28 (hs_z.1 20 (22, 160) rfl) hb3 ?_
      refine V.l2i dX12_standsIn_29 ?_
      obtain ⟨⟨u6, I7⟩, hk5, hf⟩ := bnd_some hf
      try dsimp only at hf
      refine V.inv cv_X12_267 (c_r_plays hs_z hk5) dX12_standsIn_30 (hs_z.1 0 (12, 0) rfl) (by decide) rfl rfl rfl (Nat.le_of_ble_eq_true rfl) (by decide) (by decide) (Nat.le_refl _) (Nat.le_refl _) (fun _ _ hq => ?_)
      obtain ⟨rfl, rfl⟩ := hq
      try dsimp only
      refine V.pop dX12_standsIn_33 rfl ?_
      refine V.iload_n dX12_standsIn_34 rfl ?_
      refine V.aload_n dX12_standsIn_35 rfl ?_
      refine V.iload_n dX12_standsIn_36 rfl ?_
      obtain ⟨u10, hk9, hf⟩ := bnd_some hf
      try dsimp only at hf
      refine V.inv cv_X12_218 (c_r_isUp hs_z hk9) dX12_standsIn_37 (hs_z.1 0 (12, 0) rfl) (by decide) rfl rfl rfl (Nat.le_of_ble_eq_true rfl) (by decide) (by decide) (Nat.le_refl _) (Nat.le_refl _) (fun _ _ hq => ?_)
      obtain ⟨rfl, rfl⟩ := hq
      refine V.if_eq 47 dX12_standsIn_40 (by decide) (fun c11 => ?_) (fun c11 => ?_)
      · rw [if_pos c11] at hf
        refine V.iconst (v := 0) dX12_standsIn_47 (by decide) ?_
        refine V.iadd dX12_standsIn_48 ?_
        refine V.istore_n dX12_standsIn_49 rfl (by decide) (by first | exact rfl | exact trivial) ?_
        obtain ⟨x12, e13⟩ : ∃ zz_, zz_ = (l3 + 0) := ⟨_, rfl⟩
        rw [← e13] at hf ⊢
        try dsimp only at hf
        refine V.iinc (v := (l4 + 1)) dX12_standsIn_50 rfl rfl (by first | exact rfl | exact trivial) ?_
        refine V.goto 5 dX12_standsIn_53 (by decide) ?_
        exact V.lo [(0, some (.ref z)), (1, some (.int g1)), (2, some (.int g2)), (3, some (.int x12)), (4, some (.int (l4 + 1)))] (by simp only [Subs]; repeat' first | exact trivial | constructor | rfl) (ih _ _ _ hf hk)
      · rw [if_neg c11] at hf
        refine V.iconst (v := 1) dX12_standsIn_43 (by decide) ?_
        refine V.goto 48 dX12_standsIn_44 (by decide) ?_
        refine V.iadd dX12_standsIn_48 ?_
        refine V.istore_n dX12_standsIn_49 rfl (by decide) (by first | exact rfl | exact trivial) ?_
        obtain ⟨x14, e15⟩ : ∃ zz_, zz_ = (l3 + 1) := ⟨_, rfl⟩
        rw [← e15] at hf ⊢
        try dsimp only at hf
        refine V.iinc (v := (l4 + 1)) dX12_standsIn_50 rfl rfl (by first | exact rfl | exact trivial) ?_
        refine V.goto 5 dX12_standsIn_53 (by decide) ?_
        exact V.lo [(0, some (.ref z)), (1, some (.int g1)), (2, some (.int g2)), (3, some (.int x14)), (4, some (.int (l4 + 1)))] (by simp only [Subs]; repeat' first | exact trivial | constructor | rfl) (ih _ _ _ hf hk)
theorem c_r_standsIn {l : Launch} {D : va_G} {E : Nat → ClassId} {B : Nat → Prop} {n F : Nat} {T : Nat → Option (Nat × Nat)} {I : Nat → Nat → Int32} {J : Nat → Nat → Int64} {P : Nat → Nat → Option Nat} {z : Nat} {v1 : Int32} {v2 : Int32} {r : Int32 × (Nat → Nat → Int32)} (hs_z : isMd T P z) (hf : r_standsIn F I J z v1 v2 = some r) : Ct l D E B yX12_standsIn cX12_standsIn 5 (some .int) 6 0 0 [.ref z, .int v1, .int v2] (n, T, I, J, P) (Ret (some (.int r.1)) (n, T, r.2, J, P)) := by
  unfold r_standsIn at hf
  refine Ct.ofV (by decide) (Nat.le_of_ble_eq_true rfl) ?_
  refine V.iconst (v := 0) dX12_standsIn_0 (by decide) ?_
  refine V.istore_n dX12_standsIn_1 rfl (by decide) (by first | exact rfl | exact trivial) ?_
  refine V.iconst (v := 0) dX12_standsIn_2 (by decide) ?_
  refine V.istore dX12_standsIn_3 (by decide) (by first | exact rfl | exact trivial) ?_
  obtain ⟨⟨m18, m19, I20⟩, hk17, hf⟩ := bnd_some hf
  try dsimp only at hf
  refine V.lo [(0, some (.ref z)), (1, some (.int v1)), (2, some (.int v2)), (3, some (.int 0)), (4, some (.int 0))] (by simp only [Subs]; repeat' first | exact trivial | constructor | rfl) (l_r_standsIn_5 hs_z _ F _ _ _ hk17 ?_)
  try dsimp only
  refine V.iload_n dX12_standsIn_56 rfl ?_
  obtain rfl := Option.some.inj hf
  exact V.iret dX12_standsIn_57 rfl (Nat.le_refl _) (Nat.le_refl _) ⟨rfl, rfl⟩
theorem dX12_stands_0 : decode cX12_stands 0 = .ok (.aload_n 0, 1) := by decide +kernel
theorem dX12_stands_1 : decode cX12_stands 1 = .ok (.iconst 0, 1) := by decide +kernel
theorem dX12_stands_2 : decode cX12_stands 2 = .ok (.putfield 1, 3) := by decide +kernel
theorem dX12_stands_5 : decode cX12_stands 5 = .ok (.aload_n 0, 1) := by decide +kernel
theorem dX12_stands_6 : decode cX12_stands 6 = .ok (.iload_n 1, 1) := by decide +kernel
theorem dX12_stands_7 : decode cX12_stands 7 = .ok (.iload_n 2, 1) := by decide +kernel
theorem dX12_stands_8 : decode cX12_stands 8 = .ok (.invokevirtual 348, 3) := by decide +kernel
theorem dX12_stands_11 : decode cX12_stands 11 = .ok (.istore_n 3, 1) := by decide +kernel
theorem dX12_stands_12 : decode cX12_stands 12 = .ok (.iload_n 3, 1) := by decide +kernel
theorem dX12_stands_13 : decode cX12_stands 13 = .ok (.ifCond .eq 5, 3) := by decide +kernel
theorem dX12_stands_16 : decode cX12_stands 16 = .ok (.iload_n 3, 1) := by decide +kernel
theorem dX12_stands_17 : decode cX12_stands 17 = .ok (.ireturn, 1) := by decide +kernel
theorem dX12_stands_18 : decode cX12_stands 18 = .ok (.aload_n 0, 1) := by decide +kernel
theorem dX12_stands_19 : decode cX12_stands 19 = .ok (.invokevirtual 264, 3) := by decide +kernel
theorem dX12_stands_22 : decode cX12_stands 22 = .ok (.aload_n 0, 1) := by decide +kernel
theorem dX12_stands_23 : decode cX12_stands 23 = .ok (.iload_n 1, 1) := by decide +kernel
theorem dX12_stands_24 : decode cX12_stands 24 = .ok (.iload_n 2, 1) := by decide +kernel
theorem dX12_stands_25 : decode cX12_stands 25 = .ok (.invokevirtual 351, 3) := by decide +kernel
theorem dX12_stands_28 : decode cX12_stands 28 = .ok (.istore 4, 2) := by decide +kernel
theorem dX12_stands_30 : decode cX12_stands 30 = .ok (.aload_n 0, 1) := by decide +kernel
theorem dX12_stands_31 : decode cX12_stands 31 = .ok (.invokevirtual 327, 3) := by decide +kernel
theorem dX12_stands_34 : decode cX12_stands 34 = .ok (.iload 4, 2) := by decide +kernel
theorem dX12_stands_36 : decode cX12_stands 36 = .ok (.ireturn, 1) := by decide +kernel
def r_stands (F : Nat) (I : Nat → Nat → Int32) (J : Nat → Nat → Int64) (z : Nat) (v1 : Int32) (v2 : Int32) : Option (Int32 × (Nat → Nat → Int32)) := let I1 := uI I z 0 0; (r_noStands F I1 J z v1 v2).bind (fun q3 => let u5 := q3; if u5 = 0 then ((r_keeps F I1 z).bind (fun q7 => let I9 := q7; (r_standsIn F I9 J z v1 v2).bind (fun q10 => let u12 := q10.1; let I13 := q10.2; (r_isAgain F I13 z).bind (fun q14 => let I16 := q14; some (u12, I16))))) else (some (u5, I1)))
theorem c_r_stands {l : Launch} {D : va_G} {E : Nat → ClassId} {B : Nat → Prop} {n F : Nat} {T : Nat → Option (Nat × Nat)} {I : Nat → Nat → Int32} {J : Nat → Nat → Int64} {P : Nat → Nat → Option Nat} {z : Nat} {v1 : Int32} {v2 : Int32} {r : Int32 × (Nat → Nat → Int32)} (hs_z : isMd T P z) (hf : r_stands F I J z v1 v2 = some r) : Ct l D E B yX12_stands cX12_stands 5 (some .int) 7 0 0 [.ref z, .int v1, .int v2] (n, T, I, J, P) (Ret (some (.int r.1)) (n, T, r.2, J, P)) := by
  unfold r_stands at hf
  refine Ct.ofV (by decide) (Nat.le_of_ble_eq_true rfl) ?_
  refine V.aload_n dX12_stands_0 rfl ?_
  refine V.iconst (v := 0) dX12_stands_1 (by decide) ?_
  refine V.putiE fl_X12_1 dX12_stands_2 (hs_z.1 0 (12, 0) rfl) (by decide) (fun h => by cases h) rfl rfl rfl (Nat.le_of_ble_eq_true rfl) (fun I1 e2 => ?_)
  rw [← e2] at hf
  try dsimp only at hf
  clear e2
  refine V.aload_n dX12_stands_5 rfl ?_
  refine V.iload_n dX12_stands_6 rfl ?_
  refine V.iload_n dX12_stands_7 rfl ?_
  obtain ⟨u5, hk4, hf⟩ := bnd_some hf
  try dsimp only at hf
  refine V.inv cv_X12_348 (c_r_noStands hs_z hk4) dX12_stands_8 (hs_z.1 0 (12, 0) rfl) (by decide) rfl rfl rfl (Nat.le_of_ble_eq_true rfl) (by decide) (by decide) (Nat.le_refl _) (Nat.le_refl _) (fun _ _ hq => ?_)
  obtain ⟨rfl, rfl⟩ := hq
  refine V.istore_n dX12_stands_11 rfl (by decide) (by first | exact rfl | exact trivial) ?_
  refine V.iload_n dX12_stands_12 rfl ?_
  refine V.if_eq 18 dX12_stands_13 (by decide) (fun c6 => ?_) (fun c6 => ?_)
  · rw [if_pos c6] at hf
    refine V.aload_n dX12_stands_18 rfl ?_
    obtain ⟨I9, hk8, hf⟩ := bnd_some hf
    try dsimp only at hf
    refine V.inv cv_X12_264 (c_r_keeps hs_z hk8) dX12_stands_19 (hs_z.1 0 (12, 0) rfl) (by decide) rfl rfl rfl (Nat.le_of_ble_eq_true rfl) (by decide) (by decide) (Nat.le_refl _) (Nat.le_refl _) (fun _ _ hq => ?_)
    obtain ⟨rfl, rfl⟩ := hq
    refine V.aload_n dX12_stands_22 rfl ?_
    refine V.iload_n dX12_stands_23 rfl ?_
    refine V.iload_n dX12_stands_24 rfl ?_
    obtain ⟨⟨u12, I13⟩, hk11, hf⟩ := bnd_some hf
    try dsimp only at hf
    refine V.inv cv_X12_351 (c_r_standsIn hs_z hk11) dX12_stands_25 (hs_z.1 0 (12, 0) rfl) (by decide) rfl rfl rfl (Nat.le_of_ble_eq_true rfl) (by decide) (by decide) (Nat.le_refl _) (Nat.le_refl _) (fun _ _ hq => ?_)
    obtain ⟨rfl, rfl⟩ := hq
    try dsimp only
    refine V.istore dX12_stands_28 (by decide) (by first | exact rfl | exact trivial) ?_
    refine V.aload_n dX12_stands_30 rfl ?_
    obtain ⟨I16, hk15, hf⟩ := bnd_some hf
    try dsimp only at hf
    refine V.inv cv_X12_327 (c_r_isAgain hs_z hk15) dX12_stands_31 (hs_z.1 0 (12, 0) rfl) (by decide) rfl rfl rfl (Nat.le_of_ble_eq_true rfl) (by decide) (by decide) (Nat.le_refl _) (Nat.le_refl _) (fun _ _ hq => ?_)
    obtain ⟨rfl, rfl⟩ := hq
    refine V.iload dX12_stands_34 rfl ?_
    obtain rfl := Option.some.inj hf
    exact V.iret dX12_stands_36 rfl (Nat.le_refl _) (Nat.le_refl _) ⟨rfl, rfl⟩
  · rw [if_neg c6] at hf
    refine V.iload_n dX12_stands_16 rfl ?_
    obtain rfl := Option.some.inj hf
    exact V.iret dX12_stands_17 rfl (Nat.le_refl _) (Nat.le_refl _) ⟨rfl, rfl⟩
theorem dX12_place_0 : decode cX12_place 0 = .ok (.aload_n 0, 1) := by decide +kernel
theorem dX12_place_1 : decode cX12_place 1 = .ok (.iconst 0, 1) := by decide +kernel
theorem dX12_place_2 : decode cX12_place 2 = .ok (.putfield 1, 3) := by decide +kernel
theorem dX12_place_5 : decode cX12_place 5 = .ok (.aload_n 0, 1) := by decide +kernel
theorem dX12_place_6 : decode cX12_place 6 = .ok (.iload_n 1, 1) := by decide +kernel
theorem dX12_place_7 : decode cX12_place 7 = .ok (.iload_n 2, 1) := by decide +kernel
theorem dX12_place_8 : decode cX12_place 8 = .ok (.invokevirtual 345, 3) := by decide +kernel
theorem dX12_place_11 : decode cX12_place 11 = .ok (.istore_n 3, 1) := by decide +kernel
theorem dX12_place_12 : decode cX12_place 12 = .ok (.iload_n 3, 1) := by decide +kernel
theorem dX12_place_13 : decode cX12_place 13 = .ok (.ifCond .eq 5, 3) := by decide +kernel
theorem dX12_place_16 : decode cX12_place 16 = .ok (.iload_n 3, 1) := by decide +kernel
theorem dX12_place_17 : decode cX12_place 17 = .ok (.ireturn, 1) := by decide +kernel
theorem dX12_place_18 : decode cX12_place 18 = .ok (.aload_n 0, 1) := by decide +kernel
theorem dX12_place_19 : decode cX12_place 19 = .ok (.invokevirtual 264, 3) := by decide +kernel
theorem dX12_place_22 : decode cX12_place 22 = .ok (.aload_n 0, 1) := by decide +kernel
theorem dX12_place_23 : decode cX12_place 23 = .ok (.iload_n 1, 1) := by decide +kernel
theorem dX12_place_24 : decode cX12_place 24 = .ok (.iconst 0, 1) := by decide +kernel
theorem dX12_place_25 : decode cX12_place 25 = .ok (.aload_n 0, 1) := by decide +kernel
theorem dX12_place_26 : decode cX12_place 26 = .ok (.getfield 73, 3) := by decide +kernel
theorem dX12_place_29 : decode cX12_place 29 = .ok (.iload_n 1, 1) := by decide +kernel
theorem dX12_place_30 : decode cX12_place 30 = .ok (.iaload, 1) := by decide +kernel
theorem dX12_place_31 : decode cX12_place 31 = .ok (.invokevirtual 354, 3) := by decide +kernel
theorem dX12_place_34 : decode cX12_place 34 = .ok (.aload_n 0, 1) := by decide +kernel
theorem dX12_place_35 : decode cX12_place 35 = .ok (.iload_n 2, 1) := by decide +kernel
theorem dX12_place_36 : decode cX12_place 36 = .ok (.invokevirtual 244, 3) := by decide +kernel
theorem dX12_place_39 : decode cX12_place 39 = .ok (.istore 4, 2) := by decide +kernel
theorem dX12_place_41 : decode cX12_place 41 = .ok (.aload_n 0, 1) := by decide +kernel
theorem dX12_place_42 : decode cX12_place 42 = .ok (.invokevirtual 327, 3) := by decide +kernel
theorem dX12_place_45 : decode cX12_place 45 = .ok (.iload 4, 2) := by decide +kernel
theorem dX12_place_47 : decode cX12_place 47 = .ok (.ireturn, 1) := by decide +kernel
def r_place (F : Nat) (I : Nat → Nat → Int32) (J : Nat → Nat → Int64) (z : Nat) (v1 : Int32) (v2 : Int32) : Option (Int32 × (Nat → Nat → Int32)) := let I1 := uI I z 0 0; (r_noNightOf F I1 J z v1 v2).bind (fun q3 => let u5 := q3; if u5 = 0 then ((r_keeps F I1 z).bind (fun q7 => let I9 := q7; chk v1 4 ((r_goes F I9 J z v1 0 (I9 (z + 19) (Int32.toNatClampNeg v1))).bind (fun q11 => let I13 := q11; (r_placeOf F I13 z v2).bind (fun q14 => let u16 := q14; (r_isAgain F I13 z).bind (fun q17 => let I19 := q17; some (u16, I19))))))) else (some (u5, I1)))
theorem c_r_place {l : Launch} {D : va_G} {E : Nat → ClassId} {B : Nat → Prop} {n F : Nat} {T : Nat → Option (Nat × Nat)} {I : Nat → Nat → Int32} {J : Nat → Nat → Int64} {P : Nat → Nat → Option Nat} {z : Nat} {v1 : Int32} {v2 : Int32} {r : Int32 × (Nat → Nat → Int32)} (hs_z : isMd T P z) (hf : r_place F I J z v1 v2 = some r) : Ct l D E B yX12_place cX12_place 5 (some .int) 7 0 0 [.ref z, .int v1, .int v2] (n, T, I, J, P) (Ret (some (.int r.1)) (n, T, r.2, J, P)) := by
  unfold r_place at hf
  refine Ct.ofV (by decide) (Nat.le_of_ble_eq_true rfl) ?_
  refine V.aload_n dX12_place_0 rfl ?_
  refine V.iconst (v := 0) dX12_place_1 (by decide) ?_
  refine V.putiE fl_X12_1 dX12_place_2 (hs_z.1 0 (12, 0) rfl) (by decide) (fun h => by cases h) rfl rfl rfl (Nat.le_of_ble_eq_true rfl) (fun I1 e2 => ?_)
  rw [← e2] at hf
  try dsimp only at hf
  clear e2
  refine V.aload_n dX12_place_5 rfl ?_
  refine V.iload_n dX12_place_6 rfl ?_
  refine V.iload_n dX12_place_7 rfl ?_
  obtain ⟨u5, hk4, hf⟩ := bnd_some hf
  try dsimp only at hf
  refine V.inv cv_X12_345 (c_r_noNightOf hs_z hk4) dX12_place_8 (hs_z.1 0 (12, 0) rfl) (by decide) rfl rfl rfl (Nat.le_of_ble_eq_true rfl) (by decide) (by decide) (Nat.le_refl _) (Nat.le_refl _) (fun _ _ hq => ?_)
  obtain ⟨rfl, rfl⟩ := hq
  refine V.istore_n dX12_place_11 rfl (by decide) (by first | exact rfl | exact trivial) ?_
  refine V.iload_n dX12_place_12 rfl ?_
  refine V.if_eq 18 dX12_place_13 (by decide) (fun c6 => ?_) (fun c6 => ?_)
  · rw [if_pos c6] at hf
    refine V.aload_n dX12_place_18 rfl ?_
    obtain ⟨I9, hk8, hf⟩ := bnd_some hf
    try dsimp only at hf
    refine V.inv cv_X12_264 (c_r_keeps hs_z hk8) dX12_place_19 (hs_z.1 0 (12, 0) rfl) (by decide) rfl rfl rfl (Nat.le_of_ble_eq_true rfl) (by decide) (by decide) (Nat.le_refl _) (Nat.le_refl _) (fun _ _ hq => ?_)
    obtain ⟨rfl, rfl⟩ := hq
    refine V.aload_n dX12_place_22 rfl ?_
    refine V.iload_n dX12_place_23 rfl ?_
    refine V.iconst (v := 0) dX12_place_24 (by decide) ?_
    refine V.aload_n dX12_place_25 rfl ?_
    refine V.getr fl_X12_73 dX12_place_26 (hs_z.1 0 (12, 0) rfl) (hs_z.2 0 34 19 rfl) (by decide) rfl ?_
    refine V.iload_n dX12_place_29 rfl ?_
    obtain ⟨hb10, hf⟩ := chk_some hf
    refine V.iald dX12_place_30 (hs_z.1 19 (20, 4) rfl) hb10 ?_
    obtain ⟨I13, hk12, hf⟩ := bnd_some hf
    try dsimp only at hf
    refine V.inv cv_X12_354 (c_r_goes hs_z hk12) dX12_place_31 (hs_z.1 0 (12, 0) rfl) (by decide) rfl rfl rfl (Nat.le_of_ble_eq_true rfl) (by decide) (by decide) (Nat.le_refl _) (Nat.le_refl _) (fun _ _ hq => ?_)
    obtain ⟨rfl, rfl⟩ := hq
    refine V.aload_n dX12_place_34 rfl ?_
    refine V.iload_n dX12_place_35 rfl ?_
    obtain ⟨u16, hk15, hf⟩ := bnd_some hf
    try dsimp only at hf
    refine V.inv cv_X12_244 (c_r_placeOf hs_z hk15) dX12_place_36 (hs_z.1 0 (12, 0) rfl) (by decide) rfl rfl rfl (Nat.le_of_ble_eq_true rfl) (by decide) (by decide) (Nat.le_refl _) (Nat.le_refl _) (fun _ _ hq => ?_)
    obtain ⟨rfl, rfl⟩ := hq
    refine V.istore dX12_place_39 (by decide) (by first | exact rfl | exact trivial) ?_
    refine V.aload_n dX12_place_41 rfl ?_
    obtain ⟨I19, hk18, hf⟩ := bnd_some hf
    try dsimp only at hf
    refine V.inv cv_X12_327 (c_r_isAgain hs_z hk18) dX12_place_42 (hs_z.1 0 (12, 0) rfl) (by decide) rfl rfl rfl (Nat.le_of_ble_eq_true rfl) (by decide) (by decide) (Nat.le_refl _) (Nat.le_refl _) (fun _ _ hq => ?_)
    obtain ⟨rfl, rfl⟩ := hq
    refine V.iload dX12_place_45 rfl ?_
    obtain rfl := Option.some.inj hf
    exact V.iret dX12_place_47 rfl (Nat.le_refl _) (Nat.le_refl _) ⟨rfl, rfl⟩
  · rw [if_neg c6] at hf
    refine V.iload_n dX12_place_16 rfl ?_
    obtain rfl := Option.some.inj hf
    exact V.iret dX12_place_17 rfl (Nat.le_refl _) (Nat.le_refl _) ⟨rfl, rfl⟩
theorem dX12_breakfast_0 : decode cX12_breakfast 0 = .ok (.aload_n 0, 1) := by decide +kernel
theorem dX12_breakfast_1 : decode cX12_breakfast 1 = .ok (.iconst 0, 1) := by decide +kernel
theorem dX12_breakfast_2 : decode cX12_breakfast 2 = .ok (.putfield 1, 3) := by decide +kernel
theorem dX12_breakfast_5 : decode cX12_breakfast 5 = .ok (.aload_n 0, 1) := by decide +kernel
theorem dX12_breakfast_6 : decode cX12_breakfast 6 = .ok (.iload_n 1, 1) := by decide +kernel
theorem dX12_breakfast_7 : decode cX12_breakfast 7 = .ok (.invokevirtual 342, 3) := by decide +kernel
theorem dX12_breakfast_10 : decode cX12_breakfast 10 = .ok (.istore_n 2, 1) := by decide +kernel
theorem dX12_breakfast_11 : decode cX12_breakfast 11 = .ok (.iload_n 2, 1) := by decide +kernel
theorem dX12_breakfast_12 : decode cX12_breakfast 12 = .ok (.ifCond .eq 5, 3) := by decide +kernel
theorem dX12_breakfast_15 : decode cX12_breakfast 15 = .ok (.iload_n 2, 1) := by decide +kernel
theorem dX12_breakfast_16 : decode cX12_breakfast 16 = .ok (.ireturn, 1) := by decide +kernel
theorem dX12_breakfast_17 : decode cX12_breakfast 17 = .ok (.aload_n 0, 1) := by decide +kernel
theorem dX12_breakfast_18 : decode cX12_breakfast 18 = .ok (.invokevirtual 264, 3) := by decide +kernel
theorem dX12_breakfast_21 : decode cX12_breakfast 21 = .ok (.aload_n 0, 1) := by decide +kernel
theorem dX12_breakfast_22 : decode cX12_breakfast 22 = .ok (.iload_n 1, 1) := by decide +kernel
theorem dX12_breakfast_23 : decode cX12_breakfast 23 = .ok (.iconst 0, 1) := by decide +kernel
theorem dX12_breakfast_24 : decode cX12_breakfast 24 = .ok (.aload_n 0, 1) := by decide +kernel
theorem dX12_breakfast_25 : decode cX12_breakfast 25 = .ok (.getfield 73, 3) := by decide +kernel
theorem dX12_breakfast_28 : decode cX12_breakfast 28 = .ok (.iload_n 1, 1) := by decide +kernel
theorem dX12_breakfast_29 : decode cX12_breakfast 29 = .ok (.iaload, 1) := by decide +kernel
theorem dX12_breakfast_30 : decode cX12_breakfast 30 = .ok (.invokevirtual 354, 3) := by decide +kernel
theorem dX12_breakfast_33 : decode cX12_breakfast 33 = .ok (.aload_n 0, 1) := by decide +kernel
theorem dX12_breakfast_34 : decode cX12_breakfast 34 = .ok (.getfield 13, 3) := by decide +kernel
theorem dX12_breakfast_37 : decode cX12_breakfast 37 = .ok (.bipush 32, 2) := by decide +kernel
theorem dX12_breakfast_39 : decode cX12_breakfast 39 = .ok (.iaload, 1) := by decide +kernel
theorem dX12_breakfast_40 : decode cX12_breakfast 40 = .ok (.istore_n 3, 1) := by decide +kernel
theorem dX12_breakfast_41 : decode cX12_breakfast 41 = .ok (.aload_n 0, 1) := by decide +kernel
theorem dX12_breakfast_42 : decode cX12_breakfast 42 = .ok (.invokevirtual 327, 3) := by decide +kernel
theorem dX12_breakfast_45 : decode cX12_breakfast 45 = .ok (.iload_n 3, 1) := by decide +kernel
theorem dX12_breakfast_46 : decode cX12_breakfast 46 = .ok (.ireturn, 1) := by decide +kernel
def r_breakfast (F : Nat) (I : Nat → Nat → Int32) (J : Nat → Nat → Int64) (z : Nat) (v1 : Int32) : Option (Int32 × (Nat → Nat → Int32)) := let I1 := uI I z 0 0; (r_noNight F I1 J z v1).bind (fun q3 => let u5 := q3; if u5 = 0 then ((r_keeps F I1 z).bind (fun q7 => let I9 := q7; chk v1 4 ((r_goes F I9 J z v1 0 (I9 (z + 19) (Int32.toNatClampNeg v1))).bind (fun q11 => let I13 := q11; let x14 := (I13 (z + 1) (Int32.toNatClampNeg 32)); (r_isAgain F I13 z).bind (fun q16 => let I18 := q16; some (x14, I18)))))) else (some (u5, I1)))
theorem c_r_breakfast {l : Launch} {D : va_G} {E : Nat → ClassId} {B : Nat → Prop} {n F : Nat} {T : Nat → Option (Nat × Nat)} {I : Nat → Nat → Int32} {J : Nat → Nat → Int64} {P : Nat → Nat → Option Nat} {z : Nat} {v1 : Int32} {r : Int32 × (Nat → Nat → Int32)} (hs_z : isMd T P z) (hf : r_breakfast F I J z v1 = some r) : Ct l D E B yX12_breakfast cX12_breakfast 4 (some .int) 7 0 0 [.ref z, .int v1] (n, T, I, J, P) (Ret (some (.int r.1)) (n, T, r.2, J, P)) := by
  unfold r_breakfast at hf
  refine Ct.ofV (by decide) (Nat.le_of_ble_eq_true rfl) ?_
  refine V.aload_n dX12_breakfast_0 rfl ?_
  refine V.iconst (v := 0) dX12_breakfast_1 (by decide) ?_
  refine V.putiE fl_X12_1 dX12_breakfast_2 (hs_z.1 0 (12, 0) rfl) (by decide) (fun h => by cases h) rfl rfl rfl (Nat.le_of_ble_eq_true rfl) (fun I1 e2 => ?_)
  rw [← e2] at hf
  try dsimp only at hf
  clear e2
  refine V.aload_n dX12_breakfast_5 rfl ?_
  refine V.iload_n dX12_breakfast_6 rfl ?_
  obtain ⟨u5, hk4, hf⟩ := bnd_some hf
  try dsimp only at hf
  refine V.inv cv_X12_342 (c_r_noNight hs_z hk4) dX12_breakfast_7 (hs_z.1 0 (12, 0) rfl) (by decide) rfl rfl rfl (Nat.le_of_ble_eq_true rfl) (by decide) (by decide) (Nat.le_refl _) (Nat.le_refl _) (fun _ _ hq => ?_)
  obtain ⟨rfl, rfl⟩ := hq
  refine V.istore_n dX12_breakfast_10 rfl (by decide) (by first | exact rfl | exact trivial) ?_
  refine V.iload_n dX12_breakfast_11 rfl ?_
  refine V.if_eq 17 dX12_breakfast_12 (by decide) (fun c6 => ?_) (fun c6 => ?_)
  · rw [if_pos c6] at hf
    refine V.aload_n dX12_breakfast_17 rfl ?_
    obtain ⟨I9, hk8, hf⟩ := bnd_some hf
    try dsimp only at hf
    refine V.inv cv_X12_264 (c_r_keeps hs_z hk8) dX12_breakfast_18 (hs_z.1 0 (12, 0) rfl) (by decide) rfl rfl rfl (Nat.le_of_ble_eq_true rfl) (by decide) (by decide) (Nat.le_refl _) (Nat.le_refl _) (fun _ _ hq => ?_)
    obtain ⟨rfl, rfl⟩ := hq
    refine V.aload_n dX12_breakfast_21 rfl ?_
    refine V.iload_n dX12_breakfast_22 rfl ?_
    refine V.iconst (v := 0) dX12_breakfast_23 (by decide) ?_
    refine V.aload_n dX12_breakfast_24 rfl ?_
    refine V.getr fl_X12_73 dX12_breakfast_25 (hs_z.1 0 (12, 0) rfl) (hs_z.2 0 34 19 rfl) (by decide) rfl ?_
    refine V.iload_n dX12_breakfast_28 rfl ?_
    obtain ⟨hb10, hf⟩ := chk_some hf
    refine V.iald dX12_breakfast_29 (hs_z.1 19 (20, 4) rfl) hb10 ?_
    obtain ⟨I13, hk12, hf⟩ := bnd_some hf
    try dsimp only at hf
    refine V.inv cv_X12_354 (c_r_goes hs_z hk12) dX12_breakfast_30 (hs_z.1 0 (12, 0) rfl) (by decide) rfl rfl rfl (Nat.le_of_ble_eq_true rfl) (by decide) (by decide) (Nat.le_refl _) (Nat.le_refl _) (fun _ _ hq => ?_)
    obtain ⟨rfl, rfl⟩ := hq
    refine V.aload_n dX12_breakfast_33 rfl ?_
    refine V.getr fl_X12_13 dX12_breakfast_34 (hs_z.1 0 (12, 0) rfl) (hs_z.2 0 1 1 rfl) (by decide) rfl ?_
    refine V.bipush (v := 32) dX12_breakfast_37 (by decide) ?_
    refine V.iald dX12_breakfast_39 (hs_z.1 1 (20, 3891) rfl) (vp_lit (by decide)) ?_
    refine V.istore_n dX12_breakfast_40 rfl (by decide) (by first | exact rfl | exact trivial) ?_
    obtain ⟨x14, e15⟩ : ∃ zz_, zz_ = (I13 (z + 1) (Int32.toNatClampNeg 32)) := ⟨_, rfl⟩
    rw [← e15] at hf ⊢
    try dsimp only at hf
    refine V.aload_n dX12_breakfast_41 rfl ?_
    obtain ⟨I18, hk17, hf⟩ := bnd_some hf
    try dsimp only at hf
    refine V.inv cv_X12_327 (c_r_isAgain hs_z hk17) dX12_breakfast_42 (hs_z.1 0 (12, 0) rfl) (by decide) rfl rfl rfl (Nat.le_of_ble_eq_true rfl) (by decide) (by decide) (Nat.le_refl _) (Nat.le_refl _) (fun _ _ hq => ?_)
    obtain ⟨rfl, rfl⟩ := hq
    refine V.iload_n dX12_breakfast_45 rfl ?_
    obtain rfl := Option.some.inj hf
    exact V.iret dX12_breakfast_46 rfl (Nat.le_refl _) (Nat.le_refl _) ⟨rfl, rfl⟩
  · rw [if_neg c6] at hf
    refine V.iload_n dX12_breakfast_15 rfl ?_
    obtain rfl := Option.some.inj hf
    exact V.iret dX12_breakfast_16 rfl (Nat.le_refl _) (Nat.le_refl _) ⟨rfl, rfl⟩
theorem dX12_worthNow_0 : decode cX12_worthNow 0 = .ok (.aload_n 0, 1) := by decide +kernel
theorem dX12_worthNow_1 : decode cX12_worthNow 1 = .ok (.aload_n 0, 1) := by decide +kernel
theorem dX12_worthNow_2 : decode cX12_worthNow 2 = .ok (.iload_n 1, 1) := by decide +kernel
theorem dX12_worthNow_3 : decode cX12_worthNow 3 = .ok (.invokevirtual 244, 3) := by decide +kernel
theorem dX12_worthNow_6 : decode cX12_worthNow 6 = .ok (.invokevirtual 358, 3) := by decide +kernel
theorem dX12_worthNow_9 : decode cX12_worthNow 9 = .ok (.aload_n 0, 1) := by decide +kernel
theorem dX12_worthNow_10 : decode cX12_worthNow 10 = .ok (.getfield 13, 3) := by decide +kernel
theorem dX12_worthNow_13 : decode cX12_worthNow 13 = .ok (.bipush 47, 2) := by decide +kernel
theorem dX12_worthNow_15 : decode cX12_worthNow 15 = .ok (.iload_n 1, 1) := by decide +kernel
theorem dX12_worthNow_16 : decode cX12_worthNow 16 = .ok (.iadd, 1) := by decide +kernel
theorem dX12_worthNow_17 : decode cX12_worthNow 17 = .ok (.iaload, 1) := by decide +kernel
theorem dX12_worthNow_18 : decode cX12_worthNow 18 = .ok (.isub, 1) := by decide +kernel
theorem dX12_worthNow_19 : decode cX12_worthNow 19 = .ok (.ireturn, 1) := by decide +kernel
def r_worthNow (F : Nat) (I : Nat → Nat → Int32) (z : Nat) (v1 : Int32) : Option (Int32) := (r_placeOf F I z v1).bind (fun q1 => let u3 := q1; (r_worthOf I z u3).bind (fun q4 => let u6 := q4; chk (47 + v1) 3891 (some (u6 - (I (z + 1) (Int32.toNatClampNeg (47 + v1)))))))
theorem c_r_worthNow {l : Launch} {D : va_G} {E : Nat → ClassId} {B : Nat → Prop} {n F : Nat} {T : Nat → Option (Nat × Nat)} {I : Nat → Nat → Int32} {J : Nat → Nat → Int64} {P : Nat → Nat → Option Nat} {z : Nat} {v1 : Int32} {r : Int32} (hs_z : isMd T P z) (hf : r_worthNow F I z v1 = some r) : Ct l D E B yX12_worthNow cX12_worthNow 2 (some .int) 4 0 0 [.ref z, .int v1] (n, T, I, J, P) (Ret (some (.int r)) (n, T, I, J, P)) := by
  unfold r_worthNow at hf
  refine Ct.ofV (by decide) (Nat.le_of_ble_eq_true rfl) ?_
  refine V.aload_n dX12_worthNow_0 rfl ?_
  refine V.aload_n dX12_worthNow_1 rfl ?_
  refine V.iload_n dX12_worthNow_2 rfl ?_
  obtain ⟨u3, hk2, hf⟩ := bnd_some hf
  try dsimp only at hf
  refine V.inv cv_X12_244 (c_r_placeOf hs_z hk2) dX12_worthNow_3 (hs_z.1 0 (12, 0) rfl) (by decide) rfl rfl rfl (Nat.le_of_ble_eq_true rfl) (by decide) (by decide) (Nat.le_refl _) (Nat.le_refl _) (fun _ _ hq => ?_)
  obtain ⟨rfl, rfl⟩ := hq
  obtain ⟨u6, hk5, hf⟩ := bnd_some hf
  try dsimp only at hf
  refine V.inv cv_X12_358 (c_r_worthOf hs_z hk5) dX12_worthNow_6 (hs_z.1 0 (12, 0) rfl) (by decide) rfl rfl rfl (Nat.le_of_ble_eq_true rfl) (by decide) (by decide) (Nat.le_refl _) (Nat.le_refl _) (fun _ _ hq => ?_)
  obtain ⟨rfl, rfl⟩ := hq
  refine V.aload_n dX12_worthNow_9 rfl ?_
  refine V.getr fl_X12_13 dX12_worthNow_10 (hs_z.1 0 (12, 0) rfl) (hs_z.2 0 1 1 rfl) (by decide) rfl ?_
  refine V.bipush (v := 47) dX12_worthNow_13 (by decide) ?_
  refine V.iload_n dX12_worthNow_15 rfl ?_
  refine V.iadd dX12_worthNow_16 ?_
  obtain ⟨hb7, hf⟩ := chk_some hf
  refine V.iald dX12_worthNow_17 (hs_z.1 1 (20, 3891) rfl) hb7 ?_
  refine V.isub dX12_worthNow_18 ?_
  obtain rfl := Option.some.inj hf
  exact V.iret dX12_worthNow_19 rfl (Nat.le_refl _) (Nat.le_refl _) ⟨rfl, rfl⟩
theorem dX12_worth_0 : decode cX12_worth 0 = .ok (.aload_n 0, 1) := by decide +kernel
theorem dX12_worth_1 : decode cX12_worth 1 = .ok (.iconst 0, 1) := by decide +kernel
theorem dX12_worth_2 : decode cX12_worth 2 = .ok (.putfield 1, 3) := by decide +kernel
theorem dX12_worth_5 : decode cX12_worth 5 = .ok (.aload_n 0, 1) := by decide +kernel
theorem dX12_worth_6 : decode cX12_worth 6 = .ok (.iload_n 1, 1) := by decide +kernel
theorem dX12_worth_7 : decode cX12_worth 7 = .ok (.iload_n 2, 1) := by decide +kernel
theorem dX12_worth_8 : decode cX12_worth 8 = .ok (.invokevirtual 345, 3) := by decide +kernel
theorem dX12_worth_11 : decode cX12_worth 11 = .ok (.istore_n 3, 1) := by decide +kernel
theorem dX12_worth_12 : decode cX12_worth 12 = .ok (.iload_n 3, 1) := by decide +kernel
theorem dX12_worth_13 : decode cX12_worth 13 = .ok (.ifCond .eq 9, 3) := by decide +kernel
theorem dX12_worth_16 : decode cX12_worth 16 = .ok (.ldc_w 361, 3) := by decide +kernel
theorem dX12_worth_19 : decode cX12_worth 19 = .ok (.iload_n 3, 1) := by decide +kernel
theorem dX12_worth_20 : decode cX12_worth 20 = .ok (.iadd, 1) := by decide +kernel
theorem dX12_worth_21 : decode cX12_worth 21 = .ok (.ireturn, 1) := by decide +kernel
theorem dX12_worth_22 : decode cX12_worth 22 = .ok (.aload_n 0, 1) := by decide +kernel
theorem dX12_worth_23 : decode cX12_worth 23 = .ok (.invokevirtual 264, 3) := by decide +kernel
theorem dX12_worth_26 : decode cX12_worth 26 = .ok (.aload_n 0, 1) := by decide +kernel
theorem dX12_worth_27 : decode cX12_worth 27 = .ok (.iload_n 1, 1) := by decide +kernel
theorem dX12_worth_28 : decode cX12_worth 28 = .ok (.iconst 0, 1) := by decide +kernel
theorem dX12_worth_29 : decode cX12_worth 29 = .ok (.aload_n 0, 1) := by decide +kernel
theorem dX12_worth_30 : decode cX12_worth 30 = .ok (.getfield 73, 3) := by decide +kernel
theorem dX12_worth_33 : decode cX12_worth 33 = .ok (.iload_n 1, 1) := by decide +kernel
theorem dX12_worth_34 : decode cX12_worth 34 = .ok (.iaload, 1) := by decide +kernel
theorem dX12_worth_35 : decode cX12_worth 35 = .ok (.invokevirtual 354, 3) := by decide +kernel
theorem dX12_worth_38 : decode cX12_worth 38 = .ok (.aload_n 0, 1) := by decide +kernel
theorem dX12_worth_39 : decode cX12_worth 39 = .ok (.iload_n 2, 1) := by decide +kernel
theorem dX12_worth_40 : decode cX12_worth 40 = .ok (.invokevirtual 362, 3) := by decide +kernel
theorem dX12_worth_43 : decode cX12_worth 43 = .ok (.istore 4, 2) := by decide +kernel
theorem dX12_worth_45 : decode cX12_worth 45 = .ok (.aload_n 0, 1) := by decide +kernel
theorem dX12_worth_46 : decode cX12_worth 46 = .ok (.invokevirtual 327, 3) := by decide +kernel
theorem dX12_worth_49 : decode cX12_worth 49 = .ok (.iload 4, 2) := by decide +kernel
theorem dX12_worth_51 : decode cX12_worth 51 = .ok (.ireturn, 1) := by decide +kernel
def r_worth (F : Nat) (I : Nat → Nat → Int32) (J : Nat → Nat → Int64) (z : Nat) (v1 : Int32) (v2 : Int32) : Option (Int32 × (Nat → Nat → Int32)) := let I1 := uI I z 0 0; (r_noNightOf F I1 J z v1 v2).bind (fun q3 => let u5 := q3; if u5 = 0 then ((r_keeps F I1 z).bind (fun q7 => let I9 := q7; chk v1 4 ((r_goes F I9 J z v1 0 (I9 (z + 19) (Int32.toNatClampNeg v1))).bind (fun q11 => let I13 := q11; (r_worthNow F I13 z v2).bind (fun q14 => let u16 := q14; (r_isAgain F I13 z).bind (fun q17 => let I19 := q17; some (u16, I19))))))) else (some (((-99000000) + u5), I1)))
theorem c_r_worth {l : Launch} {D : va_G} {E : Nat → ClassId} {B : Nat → Prop} {n F : Nat} {T : Nat → Option (Nat × Nat)} {I : Nat → Nat → Int32} {J : Nat → Nat → Int64} {P : Nat → Nat → Option Nat} {z : Nat} {v1 : Int32} {v2 : Int32} {r : Int32 × (Nat → Nat → Int32)} (hs_z : isMd T P z) (hf : r_worth F I J z v1 v2 = some r) : Ct l D E B yX12_worth cX12_worth 5 (some .int) 7 0 0 [.ref z, .int v1, .int v2] (n, T, I, J, P) (Ret (some (.int r.1)) (n, T, r.2, J, P)) := by
  unfold r_worth at hf
  refine Ct.ofV (by decide) (Nat.le_of_ble_eq_true rfl) ?_
  refine V.aload_n dX12_worth_0 rfl ?_
  refine V.iconst (v := 0) dX12_worth_1 (by decide) ?_
  refine V.putiE fl_X12_1 dX12_worth_2 (hs_z.1 0 (12, 0) rfl) (by decide) (fun h => by cases h) rfl rfl rfl (Nat.le_of_ble_eq_true rfl) (fun I1 e2 => ?_)
  rw [← e2] at hf
  try dsimp only at hf
  clear e2
  refine V.aload_n dX12_worth_5 rfl ?_
  refine V.iload_n dX12_worth_6 rfl ?_
  refine V.iload_n dX12_worth_7 rfl ?_
  obtain ⟨u5, hk4, hf⟩ := bnd_some hf
  try dsimp only at hf
  refine V.inv cv_X12_345 (c_r_noNightOf hs_z hk4) dX12_worth_8 (hs_z.1 0 (12, 0) rfl) (by decide) rfl rfl rfl (Nat.le_of_ble_eq_true rfl) (by decide) (by decide) (Nat.le_refl _) (Nat.le_refl _) (fun _ _ hq => ?_)
  obtain ⟨rfl, rfl⟩ := hq
  refine V.istore_n dX12_worth_11 rfl (by decide) (by first | exact rfl | exact trivial) ?_
  refine V.iload_n dX12_worth_12 rfl ?_
  refine V.if_eq 22 dX12_worth_13 (by decide) (fun c6 => ?_) (fun c6 => ?_)
  · rw [if_pos c6] at hf
    refine V.aload_n dX12_worth_22 rfl ?_
    obtain ⟨I9, hk8, hf⟩ := bnd_some hf
    try dsimp only at hf
    refine V.inv cv_X12_264 (c_r_keeps hs_z hk8) dX12_worth_23 (hs_z.1 0 (12, 0) rfl) (by decide) rfl rfl rfl (Nat.le_of_ble_eq_true rfl) (by decide) (by decide) (Nat.le_refl _) (Nat.le_refl _) (fun _ _ hq => ?_)
    obtain ⟨rfl, rfl⟩ := hq
    refine V.aload_n dX12_worth_26 rfl ?_
    refine V.iload_n dX12_worth_27 rfl ?_
    refine V.iconst (v := 0) dX12_worth_28 (by decide) ?_
    refine V.aload_n dX12_worth_29 rfl ?_
    refine V.getr fl_X12_73 dX12_worth_30 (hs_z.1 0 (12, 0) rfl) (hs_z.2 0 34 19 rfl) (by decide) rfl ?_
    refine V.iload_n dX12_worth_33 rfl ?_
    obtain ⟨hb10, hf⟩ := chk_some hf
    refine V.iald dX12_worth_34 (hs_z.1 19 (20, 4) rfl) hb10 ?_
    obtain ⟨I13, hk12, hf⟩ := bnd_some hf
    try dsimp only at hf
    refine V.inv cv_X12_354 (c_r_goes hs_z hk12) dX12_worth_35 (hs_z.1 0 (12, 0) rfl) (by decide) rfl rfl rfl (Nat.le_of_ble_eq_true rfl) (by decide) (by decide) (Nat.le_refl _) (Nat.le_refl _) (fun _ _ hq => ?_)
    obtain ⟨rfl, rfl⟩ := hq
    refine V.aload_n dX12_worth_38 rfl ?_
    refine V.iload_n dX12_worth_39 rfl ?_
    obtain ⟨u16, hk15, hf⟩ := bnd_some hf
    try dsimp only at hf
    refine V.inv cv_X12_362 (c_r_worthNow hs_z hk15) dX12_worth_40 (hs_z.1 0 (12, 0) rfl) (by decide) rfl rfl rfl (Nat.le_of_ble_eq_true rfl) (by decide) (by decide) (Nat.le_refl _) (Nat.le_refl _) (fun _ _ hq => ?_)
    obtain ⟨rfl, rfl⟩ := hq
    refine V.istore dX12_worth_43 (by decide) (by first | exact rfl | exact trivial) ?_
    refine V.aload_n dX12_worth_45 rfl ?_
    obtain ⟨I19, hk18, hf⟩ := bnd_some hf
    try dsimp only at hf
    refine V.inv cv_X12_327 (c_r_isAgain hs_z hk18) dX12_worth_46 (hs_z.1 0 (12, 0) rfl) (by decide) rfl rfl rfl (Nat.le_of_ble_eq_true rfl) (by decide) (by decide) (Nat.le_refl _) (Nat.le_refl _) (fun _ _ hq => ?_)
    obtain ⟨rfl, rfl⟩ := hq
    refine V.iload dX12_worth_49 rfl ?_
    obtain rfl := Option.some.inj hf
    exact V.iret dX12_worth_51 rfl (Nat.le_refl _) (Nat.le_refl _) ⟨rfl, rfl⟩
  · rw [if_neg c6] at hf
    refine V.ldcw dX12_worth_16 kc_X12_361 ?_
    refine V.iload_n dX12_worth_19 rfl ?_
    refine V.iadd dX12_worth_20 ?_
    obtain rfl := Option.some.inj hf
    exact V.iret dX12_worth_21 rfl (Nat.le_refl _) (Nat.le_refl _) ⟨rfl, rfl⟩
theorem dX12_bestSit_0 : decode cX12_bestSit 0 = .ok (.aload_n 0, 1) := by decide +kernel
theorem dX12_bestSit_1 : decode cX12_bestSit 1 = .ok (.iconst 0, 1) := by decide +kernel
theorem dX12_bestSit_2 : decode cX12_bestSit 2 = .ok (.putfield 1, 3) := by decide +kernel
theorem dX12_bestSit_5 : decode cX12_bestSit 5 = .ok (.aload_n 0, 1) := by decide +kernel
theorem dX12_bestSit_6 : decode cX12_bestSit 6 = .ok (.iload_n 1, 1) := by decide +kernel
theorem dX12_bestSit_7 : decode cX12_bestSit 7 = .ok (.iload_n 2, 1) := by decide +kernel
theorem dX12_bestSit_8 : decode cX12_bestSit 8 = .ok (.invokevirtual 348, 3) := by decide +kernel
theorem dX12_bestSit_11 : decode cX12_bestSit 11 = .ok (.istore_n 3, 1) := by decide +kernel
theorem dX12_bestSit_12 : decode cX12_bestSit 12 = .ok (.iload_n 3, 1) := by decide +kernel
theorem dX12_bestSit_13 : decode cX12_bestSit 13 = .ok (.ifCond .eq 9, 3) := by decide +kernel
theorem dX12_bestSit_16 : decode cX12_bestSit 16 = .ok (.ldc_w 361, 3) := by decide +kernel
theorem dX12_bestSit_19 : decode cX12_bestSit 19 = .ok (.iload_n 3, 1) := by decide +kernel
theorem dX12_bestSit_20 : decode cX12_bestSit 20 = .ok (.iadd, 1) := by decide +kernel
theorem dX12_bestSit_21 : decode cX12_bestSit 21 = .ok (.ireturn, 1) := by decide +kernel
theorem dX12_bestSit_22 : decode cX12_bestSit 22 = .ok (.aload_n 0, 1) := by decide +kernel
theorem dX12_bestSit_23 : decode cX12_bestSit 23 = .ok (.invokevirtual 264, 3) := by decide +kernel
theorem dX12_bestSit_26 : decode cX12_bestSit 26 = .ok (.iconst 0, 1) := by decide +kernel
theorem dX12_bestSit_27 : decode cX12_bestSit 27 = .ok (.istore 4, 2) := by decide +kernel
theorem dX12_bestSit_29 : decode cX12_bestSit 29 = .ok (.ldc_w 365, 3) := by decide +kernel
theorem dX12_bestSit_32 : decode cX12_bestSit 32 = .ok (.istore 5, 2) := by decide +kernel
theorem dX12_bestSit_34 : decode cX12_bestSit 34 = .ok (.iconst 0, 1) := by decide +kernel
theorem dX12_bestSit_35 : decode cX12_bestSit 35 = .ok (.istore 6, 2) := by decide +kernel
theorem dX12_bestSit_37 : decode cX12_bestSit 37 = .ok (.iload 6, 2) := by decide +kernel
theorem dX12_bestSit_39 : decode cX12_bestSit 39 = .ok (.aload_n 0, 1) := by decide +kernel
theorem dX12_bestSit_40 : decode cX12_bestSit 40 = .ok (.getfield 73, 3) := by decide +kernel
theorem dX12_bestSit_43 : decode cX12_bestSit 43 = .ok (.iload_n 1, 1) := by decide +kernel
theorem dX12_bestSit_44 : decode cX12_bestSit 44 = .ok (.iaload, 1) := by decide +kernel
theorem dX12_bestSit_45 : decode cX12_bestSit 45 = .ok (.if_icmp .gt 72, 3) := by decide +kernel
theorem dX12_bestSit_48 : decode cX12_bestSit 48 = .ok (.aload_n 0, 1) := by decide +kernel
theorem dX12_bestSit_49 : decode cX12_bestSit 49 = .ok (.iload_n 1, 1) := by decide +kernel
theorem dX12_bestSit_50 : decode cX12_bestSit 50 = .ok (.iconst 0, 1) := by decide +kernel
theorem dX12_bestSit_51 : decode cX12_bestSit 51 = .ok (.iload 6, 2) := by decide +kernel
theorem dX12_bestSit_53 : decode cX12_bestSit 53 = .ok (.invokevirtual 354, 3) := by decide +kernel
theorem dX12_bestSit_56 : decode cX12_bestSit 56 = .ok (.aload_n 0, 1) := by decide +kernel
theorem dX12_bestSit_57 : decode cX12_bestSit 57 = .ok (.iload_n 2, 1) := by decide +kernel
theorem dX12_bestSit_58 : decode cX12_bestSit 58 = .ok (.invokevirtual 218, 3) := by decide +kernel
theorem dX12_bestSit_61 : decode cX12_bestSit 61 = .ok (.ifCond .eq 8, 3) := by decide +kernel
theorem dX12_bestSit_64 : decode cX12_bestSit 64 = .ok (.aload_n 0, 1) := by decide +kernel
theorem dX12_bestSit_65 : decode cX12_bestSit 65 = .ok (.iload_n 2, 1) := by decide +kernel
theorem dX12_bestSit_66 : decode cX12_bestSit 66 = .ok (.invokevirtual 277, 3) := by decide +kernel
theorem dX12_bestSit_69 : decode cX12_bestSit 69 = .ok (.aload_n 0, 1) := by decide +kernel
theorem dX12_bestSit_70 : decode cX12_bestSit 70 = .ok (.iload_n 1, 1) := by decide +kernel
theorem dX12_bestSit_71 : decode cX12_bestSit 71 = .ok (.iload 6, 2) := by decide +kernel
theorem dX12_bestSit_73 : decode cX12_bestSit 73 = .ok (.aload_n 0, 1) := by decide +kernel
theorem dX12_bestSit_74 : decode cX12_bestSit 74 = .ok (.getfield 73, 3) := by decide +kernel
theorem dX12_bestSit_77 : decode cX12_bestSit 77 = .ok (.iload_n 1, 1) := by decide +kernel
theorem dX12_bestSit_78 : decode cX12_bestSit 78 = .ok (.iaload, 1) := by decide +kernel
theorem dX12_bestSit_79 : decode cX12_bestSit 79 = .ok (.invokevirtual 354, 3) := by decide +kernel
theorem dX12_bestSit_82 : decode cX12_bestSit 82 = .ok (.aload_n 0, 1) := by decide +kernel
theorem dX12_bestSit_83 : decode cX12_bestSit 83 = .ok (.iload_n 2, 1) := by decide +kernel
theorem dX12_bestSit_84 : decode cX12_bestSit 84 = .ok (.invokevirtual 362, 3) := by decide +kernel
theorem dX12_bestSit_87 : decode cX12_bestSit 87 = .ok (.istore 7, 2) := by decide +kernel
theorem dX12_bestSit_89 : decode cX12_bestSit 89 = .ok (.aload_n 0, 1) := by decide +kernel
theorem dX12_bestSit_90 : decode cX12_bestSit 90 = .ok (.invokevirtual 327, 3) := by decide +kernel
theorem dX12_bestSit_93 : decode cX12_bestSit 93 = .ok (.iload 7, 2) := by decide +kernel
theorem dX12_bestSit_95 : decode cX12_bestSit 95 = .ok (.iload 5, 2) := by decide +kernel
theorem dX12_bestSit_97 : decode cX12_bestSit 97 = .ok (.if_icmp .gt 6, 3) := by decide +kernel
theorem dX12_bestSit_100 : decode cX12_bestSit 100 = .ok (.goto 11, 3) := by decide +kernel
theorem dX12_bestSit_103 : decode cX12_bestSit 103 = .ok (.iload 6, 2) := by decide +kernel
theorem dX12_bestSit_105 : decode cX12_bestSit 105 = .ok (.istore 4, 2) := by decide +kernel
theorem dX12_bestSit_107 : decode cX12_bestSit 107 = .ok (.iload 7, 2) := by decide +kernel
theorem dX12_bestSit_109 : decode cX12_bestSit 109 = .ok (.istore 5, 2) := by decide +kernel
theorem dX12_bestSit_111 : decode cX12_bestSit 111 = .ok (.iinc 6 1, 3) := by decide +kernel
theorem dX12_bestSit_114 : decode cX12_bestSit 114 = .ok (.goto (-77), 3) := by decide +kernel
theorem dX12_bestSit_117 : decode cX12_bestSit 117 = .ok (.iload 4, 2) := by decide +kernel
theorem dX12_bestSit_119 : decode cX12_bestSit 119 = .ok (.ireturn, 1) := by decide +kernel
def r_bestSit_37 (F : Nat) (J : Nat → Nat → Int64) (z : Nat) (g1 : Int32) (g2 : Int32) (g3 : Int32) : Nat → Int32 → Int32 → Int32 → (Nat → Nat → Int32) → Option (Int32 × Int32 × Int32 × (Nat → Nat → Int32))
  | 0, _, _, _, _ => none
  | k + 1, l4, l5, l6, I => chk g1 4 (if (I (z + 19) (Int32.toNatClampNeg g1)) < l6 then (some (l4, l5, l6, I)) else ((r_goes F I J z g1 0 l6).bind (fun q12 => let I14 := q12; (r_isUp I14 z g2).bind (fun q15 => let u17 := q15; if u17 = 0 then ((r_goes F I14 J z g1 l6 (I14 (z + 19) (Int32.toNatClampNeg g1))).bind (fun q19 => let I21 := q19; (r_worthNow F I21 z g2).bind (fun q22 => let u24 := q22; (r_isAgain F I21 z).bind (fun q25 => let I27 := q25; if l5 < u24 then (r_bestSit_37 F J z g1 g2 g3 k l6 u24 (l6 + 1) I27) else (r_bestSit_37 F J z g1 g2 g3 k l4 l5 (l6 + 1) I27))))) else ((r_sitsOwn I14 z g2).bind (fun q29 => let I31 := q29; (r_goes F I31 J z g1 l6 (I31 (z + 19) (Int32.toNatClampNeg g1))).bind (fun q32 => let I34 := q32; (r_worthNow F I34 z g2).bind (fun q35 => let u37 := q35; (r_isAgain F I34 z).bind (fun q38 => let I40 := q38; if l5 < u37 then (r_bestSit_37 F J z g1 g2 g3 k l6 u37 (l6 + 1) I40) else (r_bestSit_37 F J z g1 g2 g3 k l4 l5 (l6 + 1) I40))))))))))
def r_bestSit (F : Nat) (I : Nat → Nat → Int32) (J : Nat → Nat → Int64) (z : Nat) (v1 : Int32) (v2 : Int32) : Option (Int32 × (Nat → Nat → Int32)) := let I1 := uI I z 0 0; (r_noStands F I1 J z v1 v2).bind (fun q3 => let u5 := q3; if u5 = 0 then ((r_keeps F I1 z).bind (fun q7 => let I9 := q7; (r_bestSit_37 F J z v1 v2 u5 F 0 (-268435456) 0 I9).bind (fun q42 => let m44 := q42.1; let m45 := q42.2.1; let m46 := q42.2.2.1; let I47 := q42.2.2.2; some (m44, I47)))) else (some (((-99000000) + u5), I1)))
theorem l_r_bestSit_37 {l : Launch} {D : va_G} {E : Nat → ClassId} {B : Nat → Prop} {n F : Nat} {Q : Option Value → HT → Prop} {T : Nat → Option (Nat × Nat)} {J : Nat → Nat → Int64} {P : Nat → Nat → Option Nat} {z : Nat} {g1 : Int32} {g2 : Int32} {g3 : Int32} (hs_z : isMd T P z)  (r : Int32 × Int32 × Int32 × (Nat → Nat → Int32)) : ∀ (k : Nat) (l4 : Int32) (l5 : Int32) (l6 : Int32) (I : (Nat → Nat → Int32)), r_bestSit_37 F J z g1 g2 g3 k l4 l5 l6 I = some r → V l D E B yX12_bestSit cX12_bestSit 8 (some .int) 7 0 0 Q 0 0 (n, T, r.2.2.2, J, P) 117 [(0, some (.ref z)), (1, some (.int g1)), (2, some (.int g2)), (3, some (.int g3)), (4, some (.int (r.1))), (5, some (.int (r.2.1))), (6, some (.int (r.2.2.1)))] [] → V l D E B yX12_bestSit cX12_bestSit 8 (some .int) 7 0 0 Q 0 0 (n, T, I, J, P) 37 [(0, some (.ref z)), (1, some (.int g1)), (2, some (.int g2)), (3, some (.int g3)), (4, some (.int l4)), (5, some (.int l5)), (6, some (.int l6))] [] := by
  intro k
  induction k with
  | zero =>
    intro l4 l5 l6 I hf hk
    cases hf
  | succ k ih =>
    intro l4 l5 l6 I hf hk
    unfold r_bestSit_37 at hf
    refine V.iload dX12_bestSit_37 rfl ?_
    refine V.aload_n dX12_bestSit_39 rfl ?_
    refine V.getr fl_X12_73 dX12_bestSit_40 (hs_z.1 0 (12, 0) rfl) (hs_z.2 0 34 19 rfl) (by decide) rfl ?_
    refine V.iload_n dX12_bestSit_43 rfl ?_
    obtain ⟨hb10, hf⟩ := chk_some hf
    refine V.iald dX12_bestSit_44 (hs_z.1 19 (20, 4) rfl) hb10 ?_
    refine V.icmp_gt 117 dX12_bestSit_45 (by decide) (fun c11 => ?_) (fun c11 => ?_)
    · rw [if_pos c11] at hf
      obtain rfl := Option.some.inj hf
      exact V.lo [(0, some (.ref z)), (1, some (.int g1)), (2, some (.int g2)), (3, some (.int g3)), (4, some (.int l4)), (5, some (.int l5)), (6, some (.int l6))] (by simp only [Subs]; repeat' first | exact trivial | constructor | rfl) hk
    · rw [if_neg c11] at hf
      refine V.aload_n dX12_bestSit_48 rfl ?_
      refine V.iload_n dX12_bestSit_49 rfl ?_
      refine V.iconst (v := 0) dX12_bestSit_50 (by decide) ?_
      refine V.iload dX12_bestSit_51 rfl ?_
      obtain ⟨I14, hk13, hf⟩ := bnd_some hf
      try dsimp only at hf
      refine V.inv cv_X12_354 (c_r_goes hs_z hk13) dX12_bestSit_53 (hs_z.1 0 (12, 0) rfl) (by decide) rfl rfl rfl (Nat.le_of_ble_eq_true rfl) (by decide) (by decide) (Nat.le_refl _) (Nat.le_refl _) (fun _ _ hq => ?_)
      obtain ⟨rfl, rfl⟩ := hq
      refine V.aload_n dX12_bestSit_56 rfl ?_
      refine V.iload_n dX12_bestSit_57 rfl ?_
      obtain ⟨u17, hk16, hf⟩ := bnd_some hf
      try dsimp only at hf
      refine V.inv cv_X12_218 (c_r_isUp hs_z hk16) dX12_bestSit_58 (hs_z.1 0 (12, 0) rfl) (by decide) rfl rfl rfl (Nat.le_of_ble_eq_true rfl) (by decide) (by decide) (Nat.le_refl _) (Nat.le_refl _) (fun _ _ hq => ?_)
      obtain ⟨rfl, rfl⟩ := hq
      refine V.if_eq 69 dX12_bestSit_61 (by decide) (fun c18 => ?_) (fun c18 => ?_)
      · rw [if_pos c18] at hf
        refine V.aload_n dX12_bestSit_69 rfl ?_
        refine V.iload_n dX12_bestSit_70 rfl ?_
        refine V.iload dX12_bestSit_71 rfl ?_
        refine V.aload_n dX12_bestSit_73 rfl ?_
        refine V.getr fl_X12_73 dX12_bestSit_74 (hs_z.1 0 (12, 0) rfl) (hs_z.2 0 34 19 rfl) (by decide) rfl ?_
        refine V.iload_n dX12_bestSit_77 rfl ?_
        refine V.iald dX12_bestSit_78 (hs_z.1 19 (20, 4) rfl) hb10 ?_
        obtain ⟨I21, hk20, hf⟩ := bnd_some hf
        try dsimp only at hf
        refine V.inv cv_X12_354 (c_r_goes hs_z hk20) dX12_bestSit_79 (hs_z.1 0 (12, 0) rfl) (by decide) rfl rfl rfl (Nat.le_of_ble_eq_true rfl) (by decide) (by decide) (Nat.le_refl _) (Nat.le_refl _) (fun _ _ hq => ?_)
        obtain ⟨rfl, rfl⟩ := hq
        refine V.aload_n dX12_bestSit_82 rfl ?_
        refine V.iload_n dX12_bestSit_83 rfl ?_
        obtain ⟨u24, hk23, hf⟩ := bnd_some hf
        try dsimp only at hf
        refine V.inv cv_X12_362 (c_r_worthNow hs_z hk23) dX12_bestSit_84 (hs_z.1 0 (12, 0) rfl) (by decide) rfl rfl rfl (Nat.le_of_ble_eq_true rfl) (by decide) (by decide) (Nat.le_refl _) (Nat.le_refl _) (fun _ _ hq => ?_)
        obtain ⟨rfl, rfl⟩ := hq
        refine V.istore dX12_bestSit_87 (by decide) (by first | exact rfl | exact trivial) ?_
        refine V.aload_n dX12_bestSit_89 rfl ?_
        obtain ⟨I27, hk26, hf⟩ := bnd_some hf
        try dsimp only at hf
        refine V.inv cv_X12_327 (c_r_isAgain hs_z hk26) dX12_bestSit_90 (hs_z.1 0 (12, 0) rfl) (by decide) rfl rfl rfl (Nat.le_of_ble_eq_true rfl) (by decide) (by decide) (Nat.le_refl _) (Nat.le_refl _) (fun _ _ hq => ?_)
        obtain ⟨rfl, rfl⟩ := hq
        refine V.iload dX12_bestSit_93 rfl ?_
        refine V.iload dX12_bestSit_95 rfl ?_
        refine V.icmp_gt 103 dX12_bestSit_97 (by decide) (fun c28 => ?_) (fun c28 => ?_)
        · rw [if_pos c28] at hf
          refine V.iload dX12_bestSit_103 rfl ?_
          refine V.istore dX12_bestSit_105 (by decide) (by first | exact rfl | exact trivial) ?_
          refine V.iload dX12_bestSit_107 rfl ?_
          refine V.istore dX12_bestSit_109 (by decide) (by first | exact rfl | exact trivial) ?_
          refine V.iinc (v := (l6 + 1)) dX12_bestSit_111 rfl rfl (by first | exact rfl | exact trivial) ?_
          refine V.goto 37 dX12_bestSit_114 (by decide) ?_
          exact V.lo [(0, some (.ref z)), (1, some (.int g1)), (2, some (.int g2)), (3, some (.int g3)), (4, some (.int l6)), (5, some (.int u24)), (6, some (.int (l6 + 1)))] (by simp only [Subs]; repeat' first | exact trivial | constructor | rfl) (ih _ _ _ _ hf hk)
        · rw [if_neg c28] at hf
          refine V.goto 111 dX12_bestSit_100 (by decide) ?_
          refine V.iinc (v := (l6 + 1)) dX12_bestSit_111 rfl rfl (by first | exact rfl | exact trivial) ?_
          refine V.goto 37 dX12_bestSit_114 (by decide) ?_
          exact V.lo [(0, some (.ref z)), (1, some (.int g1)), (2, some (.int g2)), (3, some (.int g3)), (4, some (.int l4)), (5, some (.int l5)), (6, some (.int (l6 + 1)))] (by simp only [Subs]; repeat' first | exact trivial | constructor | rfl) (ih _ _ _ _ hf hk)
      · rw [if_neg c18] at hf
        refine V.aload_n dX12_bestSit_64 rfl ?_
        refine V.iload_n dX12_bestSit_65 rfl ?_
        obtain ⟨I31, hk30, hf⟩ := bnd_some hf
        try dsimp only at hf
        refine V.inv cv_X12_277 (c_r_sitsOwn hs_z hk30) dX12_bestSit_66 (hs_z.1 0 (12, 0) rfl) (by decide) rfl rfl rfl (Nat.le_of_ble_eq_true rfl) (by decide) (by decide) (Nat.le_refl _) (Nat.le_refl _) (fun _ _ hq => ?_)
        obtain ⟨rfl, rfl⟩ := hq
        refine V.aload_n dX12_bestSit_69 rfl ?_
        refine V.iload_n dX12_bestSit_70 rfl ?_
        refine V.iload dX12_bestSit_71 rfl ?_
        refine V.aload_n dX12_bestSit_73 rfl ?_
        refine V.getr fl_X12_73 dX12_bestSit_74 (hs_z.1 0 (12, 0) rfl) (hs_z.2 0 34 19 rfl) (by decide) rfl ?_
        refine V.iload_n dX12_bestSit_77 rfl ?_
        refine V.iald dX12_bestSit_78 (hs_z.1 19 (20, 4) rfl) hb10 ?_
        obtain ⟨I34, hk33, hf⟩ := bnd_some hf
        try dsimp only at hf
        refine V.inv cv_X12_354 (c_r_goes hs_z hk33) dX12_bestSit_79 (hs_z.1 0 (12, 0) rfl) (by decide) rfl rfl rfl (Nat.le_of_ble_eq_true rfl) (by decide) (by decide) (Nat.le_refl _) (Nat.le_refl _) (fun _ _ hq => ?_)
        obtain ⟨rfl, rfl⟩ := hq
        refine V.aload_n dX12_bestSit_82 rfl ?_
        refine V.iload_n dX12_bestSit_83 rfl ?_
        obtain ⟨u37, hk36, hf⟩ := bnd_some hf
        try dsimp only at hf
        refine V.inv cv_X12_362 (c_r_worthNow hs_z hk36) dX12_bestSit_84 (hs_z.1 0 (12, 0) rfl) (by decide) rfl rfl rfl (Nat.le_of_ble_eq_true rfl) (by decide) (by decide) (Nat.le_refl _) (Nat.le_refl _) (fun _ _ hq => ?_)
        obtain ⟨rfl, rfl⟩ := hq
        refine V.istore dX12_bestSit_87 (by decide) (by first | exact rfl | exact trivial) ?_
        refine V.aload_n dX12_bestSit_89 rfl ?_
        obtain ⟨I40, hk39, hf⟩ := bnd_some hf
        try dsimp only at hf
        refine V.inv cv_X12_327 (c_r_isAgain hs_z hk39) dX12_bestSit_90 (hs_z.1 0 (12, 0) rfl) (by decide) rfl rfl rfl (Nat.le_of_ble_eq_true rfl) (by decide) (by decide) (Nat.le_refl _) (Nat.le_refl _) (fun _ _ hq => ?_)
        obtain ⟨rfl, rfl⟩ := hq
        refine V.iload dX12_bestSit_93 rfl ?_
        refine V.iload dX12_bestSit_95 rfl ?_
        refine V.icmp_gt 103 dX12_bestSit_97 (by decide) (fun c41 => ?_) (fun c41 => ?_)
        · rw [if_pos c41] at hf
          refine V.iload dX12_bestSit_103 rfl ?_
          refine V.istore dX12_bestSit_105 (by decide) (by first | exact rfl | exact trivial) ?_
          refine V.iload dX12_bestSit_107 rfl ?_
          refine V.istore dX12_bestSit_109 (by decide) (by first | exact rfl | exact trivial) ?_
          refine V.iinc (v := (l6 + 1)) dX12_bestSit_111 rfl rfl (by first | exact rfl | exact trivial) ?_
          refine V.goto 37 dX12_bestSit_114 (by decide) ?_
          exact V.lo [(0, some (.ref z)), (1, some (.int g1)), (2, some (.int g2)), (3, some (.int g3)), (4, some (.int l6)), (5, some (.int u37)), (6, some (.int (l6 + 1)))] (by simp only [Subs]; repeat' first | exact trivial | constructor | rfl) (ih _ _ _ _ hf hk)
        · rw [if_neg c41] at hf
          refine V.goto 111 dX12_bestSit_100 (by decide) ?_
          refine V.iinc (v := (l6 + 1)) dX12_bestSit_111 rfl rfl (by first | exact rfl | exact trivial) ?_
          refine V.goto 37 dX12_bestSit_114 (by decide) ?_
          exact V.lo [(0, some (.ref z)), (1, some (.int g1)), (2, some (.int g2)), (3, some (.int g3)), (4, some (.int l4)), (5, some (.int l5)), (6, some (.int (l6 + 1)))] (by simp only [Subs]; repeat' first | exact trivial | constructor | rfl) (ih _ _ _ _ hf hk)
theorem c_r_bestSit {l : Launch} {D : va_G} {E : Nat → ClassId} {B : Nat → Prop} {n F : Nat} {T : Nat → Option (Nat × Nat)} {I : Nat → Nat → Int32} {J : Nat → Nat → Int64} {P : Nat → Nat → Option Nat} {z : Nat} {v1 : Int32} {v2 : Int32} {r : Int32 × (Nat → Nat → Int32)} (hs_z : isMd T P z) (hf : r_bestSit F I J z v1 v2 = some r) : Ct l D E B yX12_bestSit cX12_bestSit 8 (some .int) 7 0 0 [.ref z, .int v1, .int v2] (n, T, I, J, P) (Ret (some (.int r.1)) (n, T, r.2, J, P)) := by
  unfold r_bestSit at hf
  refine Ct.ofV (by decide) (Nat.le_of_ble_eq_true rfl) ?_
  refine V.aload_n dX12_bestSit_0 rfl ?_
  refine V.iconst (v := 0) dX12_bestSit_1 (by decide) ?_
  refine V.putiE fl_X12_1 dX12_bestSit_2 (hs_z.1 0 (12, 0) rfl) (by decide) (fun h => by cases h) rfl rfl rfl (Nat.le_of_ble_eq_true rfl) (fun I1 e2 => ?_)
  rw [← e2] at hf
  try dsimp only at hf
  clear e2
  refine V.aload_n dX12_bestSit_5 rfl ?_
  refine V.iload_n dX12_bestSit_6 rfl ?_
  refine V.iload_n dX12_bestSit_7 rfl ?_
  obtain ⟨u5, hk4, hf⟩ := bnd_some hf
  try dsimp only at hf
  refine V.inv cv_X12_348 (c_r_noStands hs_z hk4) dX12_bestSit_8 (hs_z.1 0 (12, 0) rfl) (by decide) rfl rfl rfl (Nat.le_of_ble_eq_true rfl) (by decide) (by decide) (Nat.le_refl _) (Nat.le_refl _) (fun _ _ hq => ?_)
  obtain ⟨rfl, rfl⟩ := hq
  refine V.istore_n dX12_bestSit_11 rfl (by decide) (by first | exact rfl | exact trivial) ?_
  refine V.iload_n dX12_bestSit_12 rfl ?_
  refine V.if_eq 22 dX12_bestSit_13 (by decide) (fun c6 => ?_) (fun c6 => ?_)
  · rw [if_pos c6] at hf
    refine V.aload_n dX12_bestSit_22 rfl ?_
    obtain ⟨I9, hk8, hf⟩ := bnd_some hf
    try dsimp only at hf
    refine V.inv cv_X12_264 (c_r_keeps hs_z hk8) dX12_bestSit_23 (hs_z.1 0 (12, 0) rfl) (by decide) rfl rfl rfl (Nat.le_of_ble_eq_true rfl) (by decide) (by decide) (Nat.le_refl _) (Nat.le_refl _) (fun _ _ hq => ?_)
    obtain ⟨rfl, rfl⟩ := hq
    refine V.iconst (v := 0) dX12_bestSit_26 (by decide) ?_
    refine V.istore dX12_bestSit_27 (by decide) (by first | exact rfl | exact trivial) ?_
    refine V.ldcw dX12_bestSit_29 kc_X12_365 ?_
    refine V.istore dX12_bestSit_32 (by decide) (by first | exact rfl | exact trivial) ?_
    refine V.iconst (v := 0) dX12_bestSit_34 (by decide) ?_
    refine V.istore dX12_bestSit_35 (by decide) (by first | exact rfl | exact trivial) ?_
    obtain ⟨⟨m44, m45, m46, I47⟩, hk43, hf⟩ := bnd_some hf
    try dsimp only at hf
    refine V.lo [(0, some (.ref z)), (1, some (.int v1)), (2, some (.int v2)), (3, some (.int u5)), (4, some (.int 0)), (5, some (.int (-268435456))), (6, some (.int 0))] (by simp only [Subs]; repeat' first | exact trivial | constructor | rfl) (l_r_bestSit_37 hs_z _ F _ _ _ _ hk43 ?_)
    try dsimp only
    refine V.iload dX12_bestSit_117 rfl ?_
    obtain rfl := Option.some.inj hf
    exact V.iret dX12_bestSit_119 rfl (Nat.le_refl _) (Nat.le_refl _) ⟨rfl, rfl⟩
  · rw [if_neg c6] at hf
    refine V.ldcw dX12_bestSit_16 kc_X12_361 ?_
    refine V.iload_n dX12_bestSit_19 rfl ?_
    refine V.iadd dX12_bestSit_20 ?_
    obtain rfl := Option.some.inj hf
    exact V.iret dX12_bestSit_21 rfl (Nat.le_refl _) (Nat.le_refl _) ⟨rfl, rfl⟩
theorem dX12_isMusic_0 : decode cX12_isMusic 0 = .ok (.iload_n 1, 1) := by decide +kernel
theorem dX12_isMusic_1 : decode cX12_isMusic 1 = .ok (.iconst (-1), 1) := by decide +kernel
theorem dX12_isMusic_2 : decode cX12_isMusic 2 = .ok (.if_icmp .eq 22, 3) := by decide +kernel
theorem dX12_isMusic_5 : decode cX12_isMusic 5 = .ok (.aload_n 0, 1) := by decide +kernel
theorem dX12_isMusic_6 : decode cX12_isMusic 6 = .ok (.getfield 13, 3) := by decide +kernel
theorem dX12_isMusic_9 : decode cX12_isMusic 9 = .ok (.bipush 32, 2) := by decide +kernel
theorem dX12_isMusic_11 : decode cX12_isMusic 11 = .ok (.iaload, 1) := by decide +kernel
theorem dX12_isMusic_12 : decode cX12_isMusic 12 = .ok (.iconst 1, 1) := by decide +kernel
theorem dX12_isMusic_13 : decode cX12_isMusic 13 = .ok (.iload_n 1, 1) := by decide +kernel
theorem dX12_isMusic_14 : decode cX12_isMusic 14 = .ok (.ishl, 1) := by decide +kernel
theorem dX12_isMusic_15 : decode cX12_isMusic 15 = .ok (.if_icmp .ne 7, 3) := by decide +kernel
theorem dX12_isMusic_18 : decode cX12_isMusic 18 = .ok (.iconst 1, 1) := by decide +kernel
theorem dX12_isMusic_19 : decode cX12_isMusic 19 = .ok (.goto 4, 3) := by decide +kernel
theorem dX12_isMusic_22 : decode cX12_isMusic 22 = .ok (.iconst 0, 1) := by decide +kernel
theorem dX12_isMusic_23 : decode cX12_isMusic 23 = .ok (.ireturn, 1) := by decide +kernel
theorem dX12_isMusic_24 : decode cX12_isMusic 24 = .ok (.iconst 0, 1) := by decide +kernel
theorem dX12_isMusic_25 : decode cX12_isMusic 25 = .ok (.istore_n 2, 1) := by decide +kernel
theorem dX12_isMusic_26 : decode cX12_isMusic 26 = .ok (.iload_n 2, 1) := by decide +kernel
theorem dX12_isMusic_27 : decode cX12_isMusic 27 = .ok (.aload_n 0, 1) := by decide +kernel
theorem dX12_isMusic_28 : decode cX12_isMusic 28 = .ok (.getfield 73, 3) := by decide +kernel
theorem dX12_isMusic_31 : decode cX12_isMusic 31 = .ok (.aload_n 0, 1) := by decide +kernel
theorem dX12_isMusic_32 : decode cX12_isMusic 32 = .ok (.getfield 366, 3) := by decide +kernel
theorem dX12_isMusic_35 : decode cX12_isMusic 35 = .ok (.iaload, 1) := by decide +kernel
theorem dX12_isMusic_36 : decode cX12_isMusic 36 = .ok (.if_icmp .ge 78, 3) := by decide +kernel
theorem dX12_isMusic_39 : decode cX12_isMusic 39 = .ok (.aload_n 0, 1) := by decide +kernel
theorem dX12_isMusic_40 : decode cX12_isMusic 40 = .ok (.getfield 76, 3) := by decide +kernel
theorem dX12_isMusic_43 : decode cX12_isMusic 43 = .ok (.bipush 40, 2) := by decide +kernel
theorem dX12_isMusic_45 : decode cX12_isMusic 45 = .ok (.aload_n 0, 1) := by decide +kernel
theorem dX12_isMusic_46 : decode cX12_isMusic 46 = .ok (.getfield 366, 3) := by decide +kernel
theorem dX12_isMusic_49 : decode cX12_isMusic 49 = .ok (.imul, 1) := by decide +kernel
theorem dX12_isMusic_50 : decode cX12_isMusic 50 = .ok (.iload_n 2, 1) := by decide +kernel
theorem dX12_isMusic_51 : decode cX12_isMusic 51 = .ok (.iadd, 1) := by decide +kernel
theorem dX12_isMusic_52 : decode cX12_isMusic 52 = .ok (.laload, 1) := by decide +kernel
theorem dX12_isMusic_53 : decode cX12_isMusic 53 = .ok (.l2i, 1) := by decide +kernel
theorem dX12_isMusic_54 : decode cX12_isMusic 54 = .ok (.istore_n 3, 1) := by decide +kernel
theorem dX12_isMusic_55 : decode cX12_isMusic 55 = .ok (.aload_n 0, 1) := by decide +kernel
theorem dX12_isMusic_56 : decode cX12_isMusic 56 = .ok (.iload_n 3, 1) := by decide +kernel
theorem dX12_isMusic_57 : decode cX12_isMusic 57 = .ok (.invokevirtual 218, 3) := by decide +kernel
theorem dX12_isMusic_60 : decode cX12_isMusic 60 = .ok (.ifCond .eq 5, 3) := by decide +kernel
theorem dX12_isMusic_63 : decode cX12_isMusic 63 = .ok (.iconst 0, 1) := by decide +kernel
theorem dX12_isMusic_64 : decode cX12_isMusic 64 = .ok (.ireturn, 1) := by decide +kernel
theorem dX12_isMusic_65 : decode cX12_isMusic 65 = .ok (.iload_n 2, 1) := by decide +kernel
theorem dX12_isMusic_66 : decode cX12_isMusic 66 = .ok (.ifCond .le 42, 3) := by decide +kernel
theorem dX12_isMusic_69 : decode cX12_isMusic 69 = .ok (.aload_n 0, 1) := by decide +kernel
theorem dX12_isMusic_70 : decode cX12_isMusic 70 = .ok (.getfield 13, 3) := by decide +kernel
theorem dX12_isMusic_73 : decode cX12_isMusic 73 = .ok (.bipush 53, 2) := by decide +kernel
theorem dX12_isMusic_75 : decode cX12_isMusic 75 = .ok (.aload_n 0, 1) := by decide +kernel
theorem dX12_isMusic_76 : decode cX12_isMusic 76 = .ok (.getfield 76, 3) := by decide +kernel
theorem dX12_isMusic_79 : decode cX12_isMusic 79 = .ok (.bipush 40, 2) := by decide +kernel
theorem dX12_isMusic_81 : decode cX12_isMusic 81 = .ok (.aload_n 0, 1) := by decide +kernel
theorem dX12_isMusic_82 : decode cX12_isMusic 82 = .ok (.getfield 366, 3) := by decide +kernel
theorem dX12_isMusic_85 : decode cX12_isMusic 85 = .ok (.imul, 1) := by decide +kernel
theorem dX12_isMusic_86 : decode cX12_isMusic 86 = .ok (.iload_n 2, 1) := by decide +kernel
theorem dX12_isMusic_87 : decode cX12_isMusic 87 = .ok (.iadd, 1) := by decide +kernel
theorem dX12_isMusic_88 : decode cX12_isMusic 88 = .ok (.iconst 1, 1) := by decide +kernel
theorem dX12_isMusic_89 : decode cX12_isMusic 89 = .ok (.isub, 1) := by decide +kernel
theorem dX12_isMusic_90 : decode cX12_isMusic 90 = .ok (.laload, 1) := by decide +kernel
theorem dX12_isMusic_91 : decode cX12_isMusic 91 = .ok (.l2i, 1) := by decide +kernel
theorem dX12_isMusic_92 : decode cX12_isMusic 92 = .ok (.iadd, 1) := by decide +kernel
theorem dX12_isMusic_93 : decode cX12_isMusic 93 = .ok (.iaload, 1) := by decide +kernel
theorem dX12_isMusic_94 : decode cX12_isMusic 94 = .ok (.aload_n 0, 1) := by decide +kernel
theorem dX12_isMusic_95 : decode cX12_isMusic 95 = .ok (.getfield 13, 3) := by decide +kernel
theorem dX12_isMusic_98 : decode cX12_isMusic 98 = .ok (.bipush 53, 2) := by decide +kernel
theorem dX12_isMusic_100 : decode cX12_isMusic 100 = .ok (.iload_n 3, 1) := by decide +kernel
theorem dX12_isMusic_101 : decode cX12_isMusic 101 = .ok (.iadd, 1) := by decide +kernel
theorem dX12_isMusic_102 : decode cX12_isMusic 102 = .ok (.iaload, 1) := by decide +kernel
theorem dX12_isMusic_103 : decode cX12_isMusic 103 = .ok (.if_icmp .lt 5, 3) := by decide +kernel
theorem dX12_isMusic_106 : decode cX12_isMusic 106 = .ok (.iconst 0, 1) := by decide +kernel
theorem dX12_isMusic_107 : decode cX12_isMusic 107 = .ok (.ireturn, 1) := by decide +kernel
theorem dX12_isMusic_108 : decode cX12_isMusic 108 = .ok (.iinc 2 1, 3) := by decide +kernel
theorem dX12_isMusic_111 : decode cX12_isMusic 111 = .ok (.goto (-85), 3) := by decide +kernel
theorem dX12_isMusic_114 : decode cX12_isMusic 114 = .ok (.iconst 1, 1) := by decide +kernel
theorem dX12_isMusic_115 : decode cX12_isMusic 115 = .ok (.ireturn, 1) := by decide +kernel
def r_isMusic_26 (F : Nat) (I : Nat → Nat → Int32) (J : Nat → Nat → Int64) (z : Nat) (g1 : Int32) : Nat → Int32 → Option ((Int32) ⊕ (Int32))
  | 0, _ => none
  | k + 1, l2 => chk (I z 24) 4 (if (I (z + 19) (Int32.toNatClampNeg (I z 24))) ≤ l2 then (some (.inr l2)) else (chk ((40 * (I z 24)) + l2) 160 (let x5 := (Int64.toInt32 (J (z + 20) (Int32.toNatClampNeg ((40 * (I z 24)) + l2)))); (r_isUp I z x5).bind (fun q7 => let u9 := q7; if u9 = 0 then (if l2 ≤ 0 then (r_isMusic_26 F I J z g1 k (l2 + 1)) else (chk (((40 * (I z 24)) + l2) - 1) 160 (chk (53 + (Int64.toInt32 (J (z + 20) (Int32.toNatClampNeg (((40 * (I z 24)) + l2) - 1))))) 3891 (chk (53 + x5) 3891 (if (I (z + 1) (Int32.toNatClampNeg (53 + (Int64.toInt32 (J (z + 20) (Int32.toNatClampNeg (((40 * (I z 24)) + l2) - 1))))))) < (I (z + 1) (Int32.toNatClampNeg (53 + x5))) then (r_isMusic_26 F I J z g1 k (l2 + 1)) else (some (.inl 0))))))) else (some (.inl 0))))))
def r_isMusic (F : Nat) (I : Nat → Nat → Int32) (J : Nat → Nat → Int64) (z : Nat) (v1 : Int32) : Option (Int32) := if v1 = (-1) then ((r_isMusic_26 F I J z v1 F 0).bind (fun q16 => match q16 with | .inl r0 => some r0 | .inr q0 => let m18 := q0; some 1)) else (if (I (z + 1) (Int32.toNatClampNeg 32)) = (1 <<< (v1 &&& 31)) then (some 1) else (some 0))
theorem l_r_isMusic_26 {l : Launch} {D : va_G} {E : Nat → ClassId} {B : Nat → Prop} {n F : Nat} {Q : Option Value → HT → Prop} {T : Nat → Option (Nat × Nat)} {I : Nat → Nat → Int32} {J : Nat → Nat → Int64} {P : Nat → Nat → Option Nat} {z : Nat} {g1 : Int32} (hs_z : isMd T P z)  (r : (Int32) ⊕ (Int32)) : ∀ (k : Nat) (l2 : Int32), r_isMusic_26 F I J z g1 k l2 = some r → (match r with | .inl r => Q (some (.int r)) (n, T, I, J, P) | .inr r => V l D E B yX12_isMusic cX12_isMusic 4 (some .boolean) 2 0 0 Q 0 0 (n, T, I, J, P) 114 [(0, some (.ref z)), (1, some (.int g1)), (2, some (.int r))] []) → V l D E B yX12_isMusic cX12_isMusic 4 (some .boolean) 2 0 0 Q 0 0 (n, T, I, J, P) 26 [(0, some (.ref z)), (1, some (.int g1)), (2, some (.int l2))] [] := by
  intro k
  induction k with
  | zero =>
    intro l2 hf hk
    cases hf
  | succ k ih =>
    intro l2 hf hk
    unfold r_isMusic_26 at hf
    refine V.iload_n dX12_isMusic_26 rfl ?_
    refine V.aload_n dX12_isMusic_27 rfl ?_
    refine V.getr fl_X12_73 dX12_isMusic_28 (hs_z.1 0 (12, 0) rfl) (hs_z.2 0 34 19 rfl) (by decide) rfl ?_
    refine V.aload_n dX12_isMusic_31 rfl ?_
    refine V.getf fl_X12_366 dX12_isMusic_32 (hs_z.1 0 (12, 0) rfl) (by decide) rfl ?_
    obtain ⟨hb2, hf⟩ := chk_some hf
    refine V.iald dX12_isMusic_35 (hs_z.1 19 (20, 4) rfl) hb2 ?_
    refine V.icmp_ge 114 dX12_isMusic_36 (by decide) (fun c3 => ?_) (fun c3 => ?_)
    · rw [if_pos c3] at hf
      obtain rfl := Option.some.inj hf
      exact V.lo [(0, some (.ref z)), (1, some (.int g1)), (2, some (.int l2))] (by simp only [Subs]; repeat' first | exact trivial | constructor | rfl) hk
    · rw [if_neg c3] at hf
      refine V.aload_n dX12_isMusic_39 rfl ?_
      refine V.getr fl_X12_76 dX12_isMusic_40 (hs_z.1 0 (12, 0) rfl) (hs_z.2 0 35 20 rfl) (by decide) rfl ?_
      refine V.bipush (v := 40) dX12_isMusic_43 (by decide) ?_
      refine V.aload_n dX12_isMusic_45 rfl ?_
      refine V.getf fl_X12_366 dX12_isMusic_46 (hs_z.1 0 (12, 0) rfl) (by decide) rfl ?_
      refine V.imul dX12_isMusic_49 ?_
      refine V.iload_n dX12_isMusic_50 rfl ?_
      refine V.iadd dX12_isMusic_51 ?_
      obtain ⟨hb4, hf⟩ := chk_some hf
      refine V.lald dX12_isMusic_52 (hs_z.1 20 (22, 160) rfl) hb4 ?_
      refine V.l2i dX12_isMusic_53 ?_
      refine V.istore_n dX12_isMusic_54 rfl (by decide) (by first | exact rfl | exact trivial) ?_
      obtain ⟨x5, e6⟩ : ∃ zz_, zz_ = (Int64.toInt32 (J (z + 20) (Int32.toNatClampNeg ((40 * (I z 24)) + l2)))) := ⟨_, rfl⟩
      rw [← e6] at hf ⊢
      try dsimp only at hf
      refine V.aload_n dX12_isMusic_55 rfl ?_
      refine V.iload_n dX12_isMusic_56 rfl ?_
      obtain ⟨u9, hk8, hf⟩ := bnd_some hf
      try dsimp only at hf
      refine V.inv cv_X12_218 (c_r_isUp hs_z hk8) dX12_isMusic_57 (hs_z.1 0 (12, 0) rfl) (by decide) rfl rfl rfl (Nat.le_of_ble_eq_true rfl) (by decide) (by decide) (Nat.le_refl _) (Nat.le_refl _) (fun _ _ hq => ?_)
      obtain ⟨rfl, rfl⟩ := hq
      refine V.if_eq 65 dX12_isMusic_60 (by decide) (fun c10 => ?_) (fun c10 => ?_)
      · rw [if_pos c10] at hf
        refine V.iload_n dX12_isMusic_65 rfl ?_
        refine V.if_le 108 dX12_isMusic_66 (by decide) (fun c11 => ?_) (fun c11 => ?_)
        · rw [if_pos c11] at hf
          refine V.iinc (v := (l2 + 1)) dX12_isMusic_108 rfl rfl (by first | exact rfl | exact trivial) ?_
          refine V.goto 26 dX12_isMusic_111 (by decide) ?_
          exact V.lo [(0, some (.ref z)), (1, some (.int g1)), (2, some (.int (l2 + 1)))] (by simp only [Subs]; repeat' first | exact trivial | constructor | rfl) (ih _ hf hk)
        · rw [if_neg c11] at hf
          refine V.aload_n dX12_isMusic_69 rfl ?_
          refine V.getr fl_X12_13 dX12_isMusic_70 (hs_z.1 0 (12, 0) rfl) (hs_z.2 0 1 1 rfl) (by decide) rfl ?_
          refine V.bipush (v := 53) dX12_isMusic_73 (by decide) ?_
          refine V.aload_n dX12_isMusic_75 rfl ?_
          refine V.getr fl_X12_76 dX12_isMusic_76 (hs_z.1 0 (12, 0) rfl) (hs_z.2 0 35 20 rfl) (by decide) rfl ?_
          refine V.bipush (v := 40) dX12_isMusic_79 (by decide) ?_
          refine V.aload_n dX12_isMusic_81 rfl ?_
          refine V.getf fl_X12_366 dX12_isMusic_82 (hs_z.1 0 (12, 0) rfl) (by decide) rfl ?_
          refine V.imul dX12_isMusic_85 ?_
          refine V.iload_n dX12_isMusic_86 rfl ?_
          refine V.iadd dX12_isMusic_87 ?_
          refine V.iconst (v := 1) dX12_isMusic_88 (by decide) ?_
          refine V.isub dX12_isMusic_89 ?_
          obtain ⟨hb12, hf⟩ := chk_some hf
          refine V.lald dX12_isMusic_90 (hs_z.1 20 (22, 160) rfl) hb12 ?_
          refine V.l2i dX12_isMusic_91 ?_
          refine V.iadd dX12_isMusic_92 ?_
          obtain ⟨hb13, hf⟩ := chk_some hf
          refine V.iald dX12_isMusic_93 (hs_z.1 1 (20, 3891) rfl) hb13 ?_
          refine V.aload_n dX12_isMusic_94 rfl ?_
          refine V.getr fl_X12_13 dX12_isMusic_95 (hs_z.1 0 (12, 0) rfl) (hs_z.2 0 1 1 rfl) (by decide) rfl ?_
          refine V.bipush (v := 53) dX12_isMusic_98 (by decide) ?_
          refine V.iload_n dX12_isMusic_100 rfl ?_
          refine V.iadd dX12_isMusic_101 ?_
          obtain ⟨hb14, hf⟩ := chk_some hf
          refine V.iald dX12_isMusic_102 (hs_z.1 1 (20, 3891) rfl) hb14 ?_
          refine V.icmp_lt 108 dX12_isMusic_103 (by decide) (fun c15 => ?_) (fun c15 => ?_)
          · rw [if_pos c15] at hf
            refine V.iinc (v := (l2 + 1)) dX12_isMusic_108 rfl rfl (by first | exact rfl | exact trivial) ?_
            refine V.goto 26 dX12_isMusic_111 (by decide) ?_
            exact V.lo [(0, some (.ref z)), (1, some (.int g1)), (2, some (.int (l2 + 1)))] (by simp only [Subs]; repeat' first | exact trivial | constructor | rfl) (ih _ hf hk)
          · rw [if_neg c15] at hf
            refine V.iconst (v := 0) dX12_isMusic_106 (by decide) ?_
            obtain rfl := Option.some.inj hf
            exact V.zret dX12_isMusic_107 rfl rfl (Nat.le_refl _) (Nat.le_refl _) hk
      · rw [if_neg c10] at hf
        refine V.iconst (v := 0) dX12_isMusic_63 (by decide) ?_
        obtain rfl := Option.some.inj hf
        exact V.zret dX12_isMusic_64 rfl rfl (Nat.le_refl _) (Nat.le_refl _) hk
theorem c_r_isMusic {l : Launch} {D : va_G} {E : Nat → ClassId} {B : Nat → Prop} {n F : Nat} {T : Nat → Option (Nat × Nat)} {I : Nat → Nat → Int32} {J : Nat → Nat → Int64} {P : Nat → Nat → Option Nat} {z : Nat} {v1 : Int32} {r : Int32} (hs_z : isMd T P z) (hf : r_isMusic F I J z v1 = some r) : Ct l D E B yX12_isMusic cX12_isMusic 4 (some .boolean) 2 0 0 [.ref z, .int v1] (n, T, I, J, P) (Ret (some (.int r)) (n, T, I, J, P)) := by
  unfold r_isMusic at hf
  refine Ct.ofV (by decide) (Nat.le_of_ble_eq_true rfl) ?_
  refine V.iload_n dX12_isMusic_0 rfl ?_
  refine V.iconst (v := -1) dX12_isMusic_1 (by decide) ?_
  refine V.icmp_eq 24 dX12_isMusic_2 (by decide) (fun c1 => ?_) (fun c1 => ?_)
  · rw [if_pos c1] at hf
    refine V.iconst (v := 0) dX12_isMusic_24 (by decide) ?_
    refine V.istore_n dX12_isMusic_25 rfl (by decide) (by first | exact rfl | exact trivial) ?_
    obtain ⟨q16, hk17, hf⟩ := bnd_some hf
    refine V.lo [(0, some (.ref z)), (1, some (.int v1)), (2, some (.int 0))] (by simp only [Subs]; repeat' first | exact trivial | constructor | rfl) (l_r_isMusic_26 hs_z q16 F _ hk17 ?_)
    rcases q16 with r0 | m18
    · try dsimp only at hf ⊢
      obtain rfl := Option.some.inj hf
      exact ⟨rfl, rfl⟩
    · try dsimp only at hf ⊢
      refine V.iconst (v := 1) dX12_isMusic_114 (by decide) ?_
      obtain rfl := Option.some.inj hf
      exact V.zret dX12_isMusic_115 rfl rfl (Nat.le_refl _) (Nat.le_refl _) ⟨rfl, rfl⟩
  · rw [if_neg c1] at hf
    refine V.aload_n dX12_isMusic_5 rfl ?_
    refine V.getr fl_X12_13 dX12_isMusic_6 (hs_z.1 0 (12, 0) rfl) (hs_z.2 0 1 1 rfl) (by decide) rfl ?_
    refine V.bipush (v := 32) dX12_isMusic_9 (by decide) ?_
    refine V.iald dX12_isMusic_11 (hs_z.1 1 (20, 3891) rfl) (vp_lit (by decide)) ?_
    refine V.iconst (v := 1) dX12_isMusic_12 (by decide) ?_
    refine V.iload_n dX12_isMusic_13 rfl ?_
    refine V.ishl dX12_isMusic_14 ?_
    refine V.icmp_ne 22 dX12_isMusic_15 (by decide) (fun c19 => ?_) (fun c19 => ?_)
    · rw [if_neg c19] at hf
      refine V.iconst (v := 0) dX12_isMusic_22 (by decide) ?_
      obtain rfl := Option.some.inj hf
      exact V.zret dX12_isMusic_23 rfl rfl (Nat.le_refl _) (Nat.le_refl _) ⟨rfl, rfl⟩
    · rw [if_pos c19] at hf
      refine V.iconst (v := 1) dX12_isMusic_18 (by decide) ?_
      refine V.goto 23 dX12_isMusic_19 (by decide) ?_
      obtain rfl := Option.some.inj hf
      exact V.zret dX12_isMusic_23 rfl rfl (Nat.le_refl _) (Nat.le_refl _) ⟨rfl, rfl⟩
theorem dX12_keepsAhead_0 : decode cX12_keepsAhead 0 = .ok (.iconst 0, 1) := by decide +kernel
theorem dX12_keepsAhead_1 : decode cX12_keepsAhead 1 = .ok (.istore_n 2, 1) := by decide +kernel
theorem dX12_keepsAhead_2 : decode cX12_keepsAhead 2 = .ok (.iload_n 2, 1) := by decide +kernel
theorem dX12_keepsAhead_3 : decode cX12_keepsAhead 3 = .ok (.bipush 33, 2) := by decide +kernel
theorem dX12_keepsAhead_5 : decode cX12_keepsAhead 5 = .ok (.if_icmp .ge 29, 3) := by decide +kernel
theorem dX12_keepsAhead_8 : decode cX12_keepsAhead 8 = .ok (.aload_n 0, 1) := by decide +kernel
theorem dX12_keepsAhead_9 : decode cX12_keepsAhead 9 = .ok (.getfield 45, 3) := by decide +kernel
theorem dX12_keepsAhead_12 : decode cX12_keepsAhead 12 = .ok (.bipush 33, 2) := by decide +kernel
theorem dX12_keepsAhead_14 : decode cX12_keepsAhead 14 = .ok (.iload_n 1, 1) := by decide +kernel
theorem dX12_keepsAhead_15 : decode cX12_keepsAhead 15 = .ok (.imul, 1) := by decide +kernel
theorem dX12_keepsAhead_16 : decode cX12_keepsAhead 16 = .ok (.iload_n 2, 1) := by decide +kernel
theorem dX12_keepsAhead_17 : decode cX12_keepsAhead 17 = .ok (.iadd, 1) := by decide +kernel
theorem dX12_keepsAhead_18 : decode cX12_keepsAhead 18 = .ok (.aload_n 0, 1) := by decide +kernel
theorem dX12_keepsAhead_19 : decode cX12_keepsAhead 19 = .ok (.getfield 13, 3) := by decide +kernel
theorem dX12_keepsAhead_22 : decode cX12_keepsAhead 22 = .ok (.bipush 32, 2) := by decide +kernel
theorem dX12_keepsAhead_24 : decode cX12_keepsAhead 24 = .ok (.iload_n 2, 1) := by decide +kernel
theorem dX12_keepsAhead_25 : decode cX12_keepsAhead 25 = .ok (.iadd, 1) := by decide +kernel
theorem dX12_keepsAhead_26 : decode cX12_keepsAhead 26 = .ok (.iaload, 1) := by decide +kernel
theorem dX12_keepsAhead_27 : decode cX12_keepsAhead 27 = .ok (.iastore, 1) := by decide +kernel
theorem dX12_keepsAhead_28 : decode cX12_keepsAhead 28 = .ok (.iinc 2 1, 3) := by decide +kernel
theorem dX12_keepsAhead_31 : decode cX12_keepsAhead 31 = .ok (.goto (-29), 3) := by decide +kernel
theorem dX12_keepsAhead_34 : decode cX12_keepsAhead 34 = .ok (.return_, 1) := by decide +kernel
def r_keepsAhead_2 (F : Nat) (z : Nat) (g1 : Int32) : Nat → Int32 → (Nat → Nat → Int32) → Option (Int32 × (Nat → Nat → Int32))
  | 0, _, _ => none
  | k + 1, l2, I => if 33 ≤ l2 then (some (l2, I)) else (chk (32 + l2) 3891 (chk ((33 * g1) + l2) 264 (let I4 := uI I (z + 10) (Int32.toNatClampNeg ((33 * g1) + l2)) (I (z + 1) (Int32.toNatClampNeg (32 + l2))); r_keepsAhead_2 F z g1 k (l2 + 1) I4)))
def r_keepsAhead (F : Nat) (I : Nat → Nat → Int32) (z : Nat) (v1 : Int32) : Option ((Nat → Nat → Int32)) := (r_keepsAhead_2 F z v1 F 0 I).bind (fun q6 => let m8 := q6.1; let I9 := q6.2; some I9)
theorem l_r_keepsAhead_2 {l : Launch} {D : va_G} {E : Nat → ClassId} {B : Nat → Prop} {n F : Nat} {Q : Option Value → HT → Prop} {T : Nat → Option (Nat × Nat)} {J : Nat → Nat → Int64} {P : Nat → Nat → Option Nat} {z : Nat} {g1 : Int32} (hs_z : isMd T P z)  (r : Int32 × (Nat → Nat → Int32)) : ∀ (k : Nat) (l2 : Int32) (I : (Nat → Nat → Int32)), r_keepsAhead_2 F z g1 k l2 I = some r → V l D E B yX12_keepsAhead cX12_keepsAhead 3 none 0 0 0 Q 0 0 (n, T, r.2, J, P) 34 [(0, some (.ref z)), (1, some (.int g1)), (2, some (.int (r.1)))] [] → V l D E B yX12_keepsAhead cX12_keepsAhead 3 none 0 0 0 Q 0 0 (n, T, I, J, P) 2 [(0, some (.ref z)), (1, some (.int g1)), (2, some (.int l2))] [] := by
  intro k
  induction k with
  | zero =>
    intro l2 I hf hk
    cases hf
  | succ k ih =>
    intro l2 I hf hk
    unfold r_keepsAhead_2 at hf
    refine V.iload_n dX12_keepsAhead_2 rfl ?_
    refine V.bipush (v := 33) dX12_keepsAhead_3 (by decide) ?_
    refine V.icmp_ge 34 dX12_keepsAhead_5 (by decide) (fun c1 => ?_) (fun c1 => ?_)
    · rw [if_pos c1] at hf
      obtain rfl := Option.some.inj hf
      exact V.lo [(0, some (.ref z)), (1, some (.int g1)), (2, some (.int l2))] (by simp only [Subs]; repeat' first | exact trivial | constructor | rfl) hk
    · rw [if_neg c1] at hf
      refine V.aload_n dX12_keepsAhead_8 rfl ?_
      refine V.getr fl_X12_45 dX12_keepsAhead_9 (hs_z.1 0 (12, 0) rfl) (hs_z.2 0 22 10 rfl) (by decide) rfl ?_
      refine V.bipush (v := 33) dX12_keepsAhead_12 (by decide) ?_
      refine V.iload_n dX12_keepsAhead_14 rfl ?_
      refine V.imul dX12_keepsAhead_15 ?_
      refine V.iload_n dX12_keepsAhead_16 rfl ?_
      refine V.iadd dX12_keepsAhead_17 ?_
      refine V.aload_n dX12_keepsAhead_18 rfl ?_
      refine V.getr fl_X12_13 dX12_keepsAhead_19 (hs_z.1 0 (12, 0) rfl) (hs_z.2 0 1 1 rfl) (by decide) rfl ?_
      refine V.bipush (v := 32) dX12_keepsAhead_22 (by decide) ?_
      refine V.iload_n dX12_keepsAhead_24 rfl ?_
      refine V.iadd dX12_keepsAhead_25 ?_
      obtain ⟨hb2, hf⟩ := chk_some hf
      refine V.iald dX12_keepsAhead_26 (hs_z.1 1 (20, 3891) rfl) hb2 ?_
      obtain ⟨hb3, hf⟩ := chk_some hf
      refine V.iastE dX12_keepsAhead_27 (hs_z.1 10 (20, 264) rfl) hb3 (fun I4 e5 => ?_)
      rw [← e5] at hf
      try dsimp only at hf
      clear e5
      refine V.iinc (v := (l2 + 1)) dX12_keepsAhead_28 rfl rfl (by first | exact rfl | exact trivial) ?_
      refine V.goto 2 dX12_keepsAhead_31 (by decide) ?_
      exact V.lo [(0, some (.ref z)), (1, some (.int g1)), (2, some (.int (l2 + 1)))] (by simp only [Subs]; repeat' first | exact trivial | constructor | rfl) (ih _ _ hf hk)
theorem c_r_keepsAhead {l : Launch} {D : va_G} {E : Nat → ClassId} {B : Nat → Prop} {n F : Nat} {T : Nat → Option (Nat × Nat)} {I : Nat → Nat → Int32} {J : Nat → Nat → Int64} {P : Nat → Nat → Option Nat} {z : Nat} {v1 : Int32} {r : (Nat → Nat → Int32)} (hs_z : isMd T P z) (hf : r_keepsAhead F I z v1 = some r) : Ct l D E B yX12_keepsAhead cX12_keepsAhead 3 none 0 0 0 [.ref z, .int v1] (n, T, I, J, P) (Ret (none) (n, T, r, J, P)) := by
  unfold r_keepsAhead at hf
  refine Ct.ofV (by decide) (Nat.le_of_ble_eq_true rfl) ?_
  refine V.iconst (v := 0) dX12_keepsAhead_0 (by decide) ?_
  refine V.istore_n dX12_keepsAhead_1 rfl (by decide) (by first | exact rfl | exact trivial) ?_
  obtain ⟨⟨m8, I9⟩, hk7, hf⟩ := bnd_some hf
  try dsimp only at hf
  refine V.lo [(0, some (.ref z)), (1, some (.int v1)), (2, some (.int 0))] (by simp only [Subs]; repeat' first | exact trivial | constructor | rfl) (l_r_keepsAhead_2 hs_z _ F _ _ hk7 ?_)
  try dsimp only
  obtain rfl := Option.some.inj hf
  exact V.vret dX12_keepsAhead_34 rfl (Nat.le_refl _) (Nat.le_refl _) ⟨rfl, rfl⟩
theorem dX12_isAheadAgain_0 : decode cX12_isAheadAgain 0 = .ok (.iconst 0, 1) := by decide +kernel
theorem dX12_isAheadAgain_1 : decode cX12_isAheadAgain 1 = .ok (.istore_n 2, 1) := by decide +kernel
theorem dX12_isAheadAgain_2 : decode cX12_isAheadAgain 2 = .ok (.iload_n 2, 1) := by decide +kernel
theorem dX12_isAheadAgain_3 : decode cX12_isAheadAgain 3 = .ok (.bipush 33, 2) := by decide +kernel
theorem dX12_isAheadAgain_5 : decode cX12_isAheadAgain 5 = .ok (.if_icmp .ge 29, 3) := by decide +kernel
theorem dX12_isAheadAgain_8 : decode cX12_isAheadAgain 8 = .ok (.aload_n 0, 1) := by decide +kernel
theorem dX12_isAheadAgain_9 : decode cX12_isAheadAgain 9 = .ok (.getfield 13, 3) := by decide +kernel
theorem dX12_isAheadAgain_12 : decode cX12_isAheadAgain 12 = .ok (.bipush 32, 2) := by decide +kernel
theorem dX12_isAheadAgain_14 : decode cX12_isAheadAgain 14 = .ok (.iload_n 2, 1) := by decide +kernel
theorem dX12_isAheadAgain_15 : decode cX12_isAheadAgain 15 = .ok (.iadd, 1) := by decide +kernel
theorem dX12_isAheadAgain_16 : decode cX12_isAheadAgain 16 = .ok (.aload_n 0, 1) := by decide +kernel
theorem dX12_isAheadAgain_17 : decode cX12_isAheadAgain 17 = .ok (.getfield 45, 3) := by decide +kernel
theorem dX12_isAheadAgain_20 : decode cX12_isAheadAgain 20 = .ok (.bipush 33, 2) := by decide +kernel
theorem dX12_isAheadAgain_22 : decode cX12_isAheadAgain 22 = .ok (.iload_n 1, 1) := by decide +kernel
theorem dX12_isAheadAgain_23 : decode cX12_isAheadAgain 23 = .ok (.imul, 1) := by decide +kernel
theorem dX12_isAheadAgain_24 : decode cX12_isAheadAgain 24 = .ok (.iload_n 2, 1) := by decide +kernel
theorem dX12_isAheadAgain_25 : decode cX12_isAheadAgain 25 = .ok (.iadd, 1) := by decide +kernel
theorem dX12_isAheadAgain_26 : decode cX12_isAheadAgain 26 = .ok (.iaload, 1) := by decide +kernel
theorem dX12_isAheadAgain_27 : decode cX12_isAheadAgain 27 = .ok (.iastore, 1) := by decide +kernel
theorem dX12_isAheadAgain_28 : decode cX12_isAheadAgain 28 = .ok (.iinc 2 1, 3) := by decide +kernel
theorem dX12_isAheadAgain_31 : decode cX12_isAheadAgain 31 = .ok (.goto (-29), 3) := by decide +kernel
theorem dX12_isAheadAgain_34 : decode cX12_isAheadAgain 34 = .ok (.return_, 1) := by decide +kernel
def r_isAheadAgain_2 (F : Nat) (z : Nat) (g1 : Int32) : Nat → Int32 → (Nat → Nat → Int32) → Option (Int32 × (Nat → Nat → Int32))
  | 0, _, _ => none
  | k + 1, l2, I => if 33 ≤ l2 then (some (l2, I)) else (chk ((33 * g1) + l2) 264 (chk (32 + l2) 3891 (let I4 := uI I (z + 1) (Int32.toNatClampNeg (32 + l2)) (I (z + 10) (Int32.toNatClampNeg ((33 * g1) + l2))); r_isAheadAgain_2 F z g1 k (l2 + 1) I4)))
def r_isAheadAgain (F : Nat) (I : Nat → Nat → Int32) (z : Nat) (v1 : Int32) : Option ((Nat → Nat → Int32)) := (r_isAheadAgain_2 F z v1 F 0 I).bind (fun q6 => let m8 := q6.1; let I9 := q6.2; some I9)
theorem l_r_isAheadAgain_2 {l : Launch} {D : va_G} {E : Nat → ClassId} {B : Nat → Prop} {n F : Nat} {Q : Option Value → HT → Prop} {T : Nat → Option (Nat × Nat)} {J : Nat → Nat → Int64} {P : Nat → Nat → Option Nat} {z : Nat} {g1 : Int32} (hs_z : isMd T P z)  (r : Int32 × (Nat → Nat → Int32)) : ∀ (k : Nat) (l2 : Int32) (I : (Nat → Nat → Int32)), r_isAheadAgain_2 F z g1 k l2 I = some r → V l D E B yX12_isAheadAgain cX12_isAheadAgain 3 none 0 0 0 Q 0 0 (n, T, r.2, J, P) 34 [(0, some (.ref z)), (1, some (.int g1)), (2, some (.int (r.1)))] [] → V l D E B yX12_isAheadAgain cX12_isAheadAgain 3 none 0 0 0 Q 0 0 (n, T, I, J, P) 2 [(0, some (.ref z)), (1, some (.int g1)), (2, some (.int l2))] [] := by
  intro k
  induction k with
  | zero =>
    intro l2 I hf hk
    cases hf
  | succ k ih =>
    intro l2 I hf hk
    unfold r_isAheadAgain_2 at hf
    refine V.iload_n dX12_isAheadAgain_2 rfl ?_
    refine V.bipush (v := 33) dX12_isAheadAgain_3 (by decide) ?_
    refine V.icmp_ge 34 dX12_isAheadAgain_5 (by decide) (fun c1 => ?_) (fun c1 => ?_)
    · rw [if_pos c1] at hf
      obtain rfl := Option.some.inj hf
      exact V.lo [(0, some (.ref z)), (1, some (.int g1)), (2, some (.int l2))] (by simp only [Subs]; repeat' first | exact trivial | constructor | rfl) hk
    · rw [if_neg c1] at hf
      refine V.aload_n dX12_isAheadAgain_8 rfl ?_
      refine V.getr fl_X12_13 dX12_isAheadAgain_9 (hs_z.1 0 (12, 0) rfl) (hs_z.2 0 1 1 rfl) (by decide) rfl ?_
      refine V.bipush (v := 32) dX12_isAheadAgain_12 (by decide) ?_
      refine V.iload_n dX12_isAheadAgain_14 rfl ?_
      refine V.iadd dX12_isAheadAgain_15 ?_
      refine V.aload_n dX12_isAheadAgain_16 rfl ?_
      refine V.getr fl_X12_45 dX12_isAheadAgain_17 (hs_z.1 0 (12, 0) rfl) (hs_z.2 0 22 10 rfl) (by decide) rfl ?_
      refine V.bipush (v := 33) dX12_isAheadAgain_20 (by decide) ?_
      refine V.iload_n dX12_isAheadAgain_22 rfl ?_
      refine V.imul dX12_isAheadAgain_23 ?_
      refine V.iload_n dX12_isAheadAgain_24 rfl ?_
      refine V.iadd dX12_isAheadAgain_25 ?_
      obtain ⟨hb2, hf⟩ := chk_some hf
      refine V.iald dX12_isAheadAgain_26 (hs_z.1 10 (20, 264) rfl) hb2 ?_
      obtain ⟨hb3, hf⟩ := chk_some hf
      refine V.iastE dX12_isAheadAgain_27 (hs_z.1 1 (20, 3891) rfl) hb3 (fun I4 e5 => ?_)
      rw [← e5] at hf
      try dsimp only at hf
      clear e5
      refine V.iinc (v := (l2 + 1)) dX12_isAheadAgain_28 rfl rfl (by first | exact rfl | exact trivial) ?_
      refine V.goto 2 dX12_isAheadAgain_31 (by decide) ?_
      exact V.lo [(0, some (.ref z)), (1, some (.int g1)), (2, some (.int (l2 + 1)))] (by simp only [Subs]; repeat' first | exact trivial | constructor | rfl) (ih _ _ hf hk)
theorem c_r_isAheadAgain {l : Launch} {D : va_G} {E : Nat → ClassId} {B : Nat → Prop} {n F : Nat} {T : Nat → Option (Nat × Nat)} {I : Nat → Nat → Int32} {J : Nat → Nat → Int64} {P : Nat → Nat → Option Nat} {z : Nat} {v1 : Int32} {r : (Nat → Nat → Int32)} (hs_z : isMd T P z) (hf : r_isAheadAgain F I z v1 = some r) : Ct l D E B yX12_isAheadAgain cX12_isAheadAgain 3 none 0 0 0 [.ref z, .int v1] (n, T, I, J, P) (Ret (none) (n, T, r, J, P)) := by
  unfold r_isAheadAgain at hf
  refine Ct.ofV (by decide) (Nat.le_of_ble_eq_true rfl) ?_
  refine V.iconst (v := 0) dX12_isAheadAgain_0 (by decide) ?_
  refine V.istore_n dX12_isAheadAgain_1 rfl (by decide) (by first | exact rfl | exact trivial) ?_
  obtain ⟨⟨m8, I9⟩, hk7, hf⟩ := bnd_some hf
  try dsimp only at hf
  refine V.lo [(0, some (.ref z)), (1, some (.int v1)), (2, some (.int 0))] (by simp only [Subs]; repeat' first | exact trivial | constructor | rfl) (l_r_isAheadAgain_2 hs_z _ F _ _ hk7 ?_)
  try dsimp only
  obtain rfl := Option.some.inj hf
  exact V.vret dX12_isAheadAgain_34 rfl (Nat.le_refl _) (Nat.le_refl _) ⟨rfl, rfl⟩
theorem dX12_noAlone_0 : decode cX12_noAlone 0 = .ok (.aload_n 0, 1) := by decide +kernel
theorem dX12_noAlone_1 : decode cX12_noAlone 1 = .ok (.iload_n 1, 1) := by decide +kernel
theorem dX12_noAlone_2 : decode cX12_noAlone 2 = .ok (.i2l, 1) := by decide +kernel
theorem dX12_noAlone_3 : decode cX12_noAlone 3 = .ok (.invokevirtual 210, 3) := by decide +kernel
theorem dX12_noAlone_6 : decode cX12_noAlone 6 = .ok (.ifCond .ne 8, 3) := by decide +kernel
theorem dX12_noAlone_9 : decode cX12_noAlone 9 = .ok (.bipush (-2), 2) := by decide +kernel
theorem dX12_noAlone_11 : decode cX12_noAlone 11 = .ok (.goto 17, 3) := by decide +kernel
theorem dX12_noAlone_14 : decode cX12_noAlone 14 = .ok (.aload_n 0, 1) := by decide +kernel
theorem dX12_noAlone_15 : decode cX12_noAlone 15 = .ok (.iload_n 1, 1) := by decide +kernel
theorem dX12_noAlone_16 : decode cX12_noAlone 16 = .ok (.invokevirtual 218, 3) := by decide +kernel
theorem dX12_noAlone_19 : decode cX12_noAlone 19 = .ok (.ifCond .eq 7, 3) := by decide +kernel
theorem dX12_noAlone_22 : decode cX12_noAlone 22 = .ok (.iconst 0, 1) := by decide +kernel
theorem dX12_noAlone_23 : decode cX12_noAlone 23 = .ok (.goto 5, 3) := by decide +kernel
theorem dX12_noAlone_26 : decode cX12_noAlone 26 = .ok (.bipush (-5), 2) := by decide +kernel
theorem dX12_noAlone_28 : decode cX12_noAlone 28 = .ok (.ireturn, 1) := by decide +kernel
def r_noAlone (I : Nat → Nat → Int32) (z : Nat) (v1 : Int32) : Option (Int32) := (r_isPerson I z (Int32.toInt64 v1)).bind (fun q1 => let u3 := q1; if u3 = 0 then (some (-2)) else ((r_isUp I z v1).bind (fun q5 => let u7 := q5; if u7 = 0 then (some (-5)) else (some 0))))
theorem c_r_noAlone {l : Launch} {D : va_G} {E : Nat → ClassId} {B : Nat → Prop} {n : Nat} {T : Nat → Option (Nat × Nat)} {I : Nat → Nat → Int32} {J : Nat → Nat → Int64} {P : Nat → Nat → Option Nat} {z : Nat} {v1 : Int32} {r : Int32} (hs_z : isMd T P z) (hf : r_noAlone I z v1 = some r) : Ct l D E B yX12_noAlone cX12_noAlone 2 (some .int) 2 0 0 [.ref z, .int v1] (n, T, I, J, P) (Ret (some (.int r)) (n, T, I, J, P)) := by
  unfold r_noAlone at hf
  refine Ct.ofV (by decide) (Nat.le_of_ble_eq_true rfl) ?_
  refine V.aload_n dX12_noAlone_0 rfl ?_
  refine V.iload_n dX12_noAlone_1 rfl ?_
  refine V.i2l dX12_noAlone_2 ?_
  obtain ⟨u3, hk2, hf⟩ := bnd_some hf
  try dsimp only at hf
  refine V.inv cv_X12_210 (c_r_isPerson hs_z hk2) dX12_noAlone_3 (hs_z.1 0 (12, 0) rfl) (by decide) rfl rfl rfl (Nat.le_of_ble_eq_true rfl) (by decide) (by decide) (Nat.le_refl _) (Nat.le_refl _) (fun _ _ hq => ?_)
  obtain ⟨rfl, rfl⟩ := hq
  refine V.if_ne 14 dX12_noAlone_6 (by decide) (fun c4 => ?_) (fun c4 => ?_)
  · rw [if_neg c4] at hf
    refine V.aload_n dX12_noAlone_14 rfl ?_
    refine V.iload_n dX12_noAlone_15 rfl ?_
    obtain ⟨u7, hk6, hf⟩ := bnd_some hf
    try dsimp only at hf
    refine V.inv cv_X12_218 (c_r_isUp hs_z hk6) dX12_noAlone_16 (hs_z.1 0 (12, 0) rfl) (by decide) rfl rfl rfl (Nat.le_of_ble_eq_true rfl) (by decide) (by decide) (Nat.le_refl _) (Nat.le_refl _) (fun _ _ hq => ?_)
    obtain ⟨rfl, rfl⟩ := hq
    refine V.if_eq 26 dX12_noAlone_19 (by decide) (fun c8 => ?_) (fun c8 => ?_)
    · rw [if_pos c8] at hf
      refine V.bipush (v := -5) dX12_noAlone_26 (by decide) ?_
      obtain rfl := Option.some.inj hf
      exact V.iret dX12_noAlone_28 rfl (Nat.le_refl _) (Nat.le_refl _) ⟨rfl, rfl⟩
    · rw [if_neg c8] at hf
      refine V.iconst (v := 0) dX12_noAlone_22 (by decide) ?_
      refine V.goto 28 dX12_noAlone_23 (by decide) ?_
      obtain rfl := Option.some.inj hf
      exact V.iret dX12_noAlone_28 rfl (Nat.le_refl _) (Nat.le_refl _) ⟨rfl, rfl⟩
  · rw [if_pos c4] at hf
    refine V.bipush (v := -2) dX12_noAlone_9 (by decide) ?_
    refine V.goto 28 dX12_noAlone_11 (by decide) ?_
    obtain rfl := Option.some.inj hf
    exact V.iret dX12_noAlone_28 rfl (Nat.le_refl _) (Nat.le_refl _) ⟨rfl, rfl⟩
theorem dX12_noSits_0 : decode cX12_noSits 0 = .ok (.aload_n 0, 1) := by decide +kernel
theorem dX12_noSits_1 : decode cX12_noSits 1 = .ok (.iload_n 1, 1) := by decide +kernel
theorem dX12_noSits_2 : decode cX12_noSits 2 = .ok (.invokevirtual 318, 3) := by decide +kernel
theorem dX12_noSits_5 : decode cX12_noSits 5 = .ok (.istore_n 2, 1) := by decide +kernel
theorem dX12_noSits_6 : decode cX12_noSits 6 = .ok (.iload_n 2, 1) := by decide +kernel
theorem dX12_noSits_7 : decode cX12_noSits 7 = .ok (.ifCond .eq 5, 3) := by decide +kernel
theorem dX12_noSits_10 : decode cX12_noSits 10 = .ok (.iload_n 2, 1) := by decide +kernel
theorem dX12_noSits_11 : decode cX12_noSits 11 = .ok (.ireturn, 1) := by decide +kernel
theorem dX12_noSits_12 : decode cX12_noSits 12 = .ok (.aload_n 0, 1) := by decide +kernel
theorem dX12_noSits_13 : decode cX12_noSits 13 = .ok (.getfield 73, 3) := by decide +kernel
theorem dX12_noSits_16 : decode cX12_noSits 16 = .ok (.iload_n 1, 1) := by decide +kernel
theorem dX12_noSits_17 : decode cX12_noSits 17 = .ok (.iaload, 1) := by decide +kernel
theorem dX12_noSits_18 : decode cX12_noSits 18 = .ok (.i2l, 1) := by decide +kernel
theorem dX12_noSits_19 : decode cX12_noSits 19 = .ok (.lconst 1, 1) := by decide +kernel
theorem dX12_noSits_20 : decode cX12_noSits 20 = .ok (.ldc2_w 393, 3) := by decide +kernel
theorem dX12_noSits_23 : decode cX12_noSits 23 = .ok (.invokestatic 145, 3) := by decide +kernel
theorem dX12_noSits_26 : decode cX12_noSits 26 = .ok (.ifCond .ne 6, 3) := by decide +kernel
theorem dX12_noSits_29 : decode cX12_noSits 29 = .ok (.bipush (-4), 2) := by decide +kernel
theorem dX12_noSits_31 : decode cX12_noSits 31 = .ok (.ireturn, 1) := by decide +kernel
theorem dX12_noSits_32 : decode cX12_noSits 32 = .ok (.iconst 0, 1) := by decide +kernel
theorem dX12_noSits_33 : decode cX12_noSits 33 = .ok (.istore_n 3, 1) := by decide +kernel
theorem dX12_noSits_34 : decode cX12_noSits 34 = .ok (.iconst 0, 1) := by decide +kernel
theorem dX12_noSits_35 : decode cX12_noSits 35 = .ok (.istore 4, 2) := by decide +kernel
theorem dX12_noSits_37 : decode cX12_noSits 37 = .ok (.iload 4, 2) := by decide +kernel
theorem dX12_noSits_39 : decode cX12_noSits 39 = .ok (.aload_n 0, 1) := by decide +kernel
theorem dX12_noSits_40 : decode cX12_noSits 40 = .ok (.getfield 73, 3) := by decide +kernel
theorem dX12_noSits_43 : decode cX12_noSits 43 = .ok (.iload_n 1, 1) := by decide +kernel
theorem dX12_noSits_44 : decode cX12_noSits 44 = .ok (.iaload, 1) := by decide +kernel
theorem dX12_noSits_45 : decode cX12_noSits 45 = .ok (.if_icmp .ge 54, 3) := by decide +kernel
theorem dX12_noSits_48 : decode cX12_noSits 48 = .ok (.aload_n 0, 1) := by decide +kernel
theorem dX12_noSits_49 : decode cX12_noSits 49 = .ok (.getfield 76, 3) := by decide +kernel
theorem dX12_noSits_52 : decode cX12_noSits 52 = .ok (.bipush 40, 2) := by decide +kernel
theorem dX12_noSits_54 : decode cX12_noSits 54 = .ok (.iload_n 1, 1) := by decide +kernel
theorem dX12_noSits_55 : decode cX12_noSits 55 = .ok (.imul, 1) := by decide +kernel
theorem dX12_noSits_56 : decode cX12_noSits 56 = .ok (.iload 4, 2) := by decide +kernel
theorem dX12_noSits_58 : decode cX12_noSits 58 = .ok (.iadd, 1) := by decide +kernel
theorem dX12_noSits_59 : decode cX12_noSits 59 = .ok (.laload, 1) := by decide +kernel
theorem dX12_noSits_60 : decode cX12_noSits 60 = .ok (.lstore 5, 2) := by decide +kernel
theorem dX12_noSits_62 : decode cX12_noSits 62 = .ok (.aload_n 0, 1) := by decide +kernel
theorem dX12_noSits_63 : decode cX12_noSits 63 = .ok (.lload 5, 2) := by decide +kernel
theorem dX12_noSits_65 : decode cX12_noSits 65 = .ok (.invokevirtual 210, 3) := by decide +kernel
theorem dX12_noSits_68 : decode cX12_noSits 68 = .ok (.ifCond .eq 14, 3) := by decide +kernel
theorem dX12_noSits_71 : decode cX12_noSits 71 = .ok (.iload_n 3, 1) := by decide +kernel
theorem dX12_noSits_72 : decode cX12_noSits 72 = .ok (.i2l, 1) := by decide +kernel
theorem dX12_noSits_73 : decode cX12_noSits 73 = .ok (.lload 5, 2) := by decide +kernel
theorem dX12_noSits_75 : decode cX12_noSits 75 = .ok (.l2i, 1) := by decide +kernel
theorem dX12_noSits_76 : decode cX12_noSits 76 = .ok (.invokestatic 214, 3) := by decide +kernel
theorem dX12_noSits_79 : decode cX12_noSits 79 = .ok (.ifCond .eq 6, 3) := by decide +kernel
theorem dX12_noSits_82 : decode cX12_noSits 82 = .ok (.bipush (-3), 2) := by decide +kernel
theorem dX12_noSits_84 : decode cX12_noSits 84 = .ok (.ireturn, 1) := by decide +kernel
theorem dX12_noSits_85 : decode cX12_noSits 85 = .ok (.iload_n 3, 1) := by decide +kernel
theorem dX12_noSits_86 : decode cX12_noSits 86 = .ok (.iconst 1, 1) := by decide +kernel
theorem dX12_noSits_87 : decode cX12_noSits 87 = .ok (.lload 5, 2) := by decide +kernel
theorem dX12_noSits_89 : decode cX12_noSits 89 = .ok (.l2i, 1) := by decide +kernel
theorem dX12_noSits_90 : decode cX12_noSits 90 = .ok (.ishl, 1) := by decide +kernel
theorem dX12_noSits_91 : decode cX12_noSits 91 = .ok (.ior, 1) := by decide +kernel
theorem dX12_noSits_92 : decode cX12_noSits 92 = .ok (.istore_n 3, 1) := by decide +kernel
theorem dX12_noSits_93 : decode cX12_noSits 93 = .ok (.iinc 4 1, 3) := by decide +kernel
theorem dX12_noSits_96 : decode cX12_noSits 96 = .ok (.goto (-59), 3) := by decide +kernel
theorem dX12_noSits_99 : decode cX12_noSits 99 = .ok (.iconst 0, 1) := by decide +kernel
theorem dX12_noSits_100 : decode cX12_noSits 100 = .ok (.ireturn, 1) := by decide +kernel
def r_noSits_37 (F : Nat) (I : Nat → Nat → Int32) (J : Nat → Nat → Int64) (z : Nat) (g1 : Int32) (g2 : Int32) : Nat → Int32 → Int32 → Option ((Int32) ⊕ (Int32 × Int32))
  | 0, _, _ => none
  | k + 1, l3, l4 => chk g1 4 (if (I (z + 19) (Int32.toNatClampNeg g1)) ≤ l4 then (some (.inr (l3, l4))) else (chk ((40 * g1) + l4) 160 (let x10 := (J (z + 20) (Int32.toNatClampNeg ((40 * g1) + l4))); (r_isPerson I z x10).bind (fun q12 => let u14 := q12; if u14 = 0 then (some (.inl (-3))) else (if (r_isIn (Int32.toInt64 l3) (Int64.toInt32 x10)) = 0 then (let x17 := (l3 ||| (1 <<< ((Int64.toInt32 x10) &&& 31))); r_noSits_37 F I J z g1 g2 k x17 (l4 + 1)) else (some (.inl (-3))))))))
def r_noSits (F : Nat) (I : Nat → Nat → Int32) (J : Nat → Nat → Int64) (z : Nat) (v1 : Int32) : Option (Int32) := (r_noTray I z v1).bind (fun q1 => let u3 := q1; if u3 = 0 then (chk v1 4 (if (r_within (Int32.toInt64 (I (z + 19) (Int32.toNatClampNeg v1))) 1 6) = 0 then (some (-4)) else ((r_noSits_37 F I J z v1 u3 F 0 0).bind (fun q19 => match q19 with | .inl r0 => some r0 | .inr q0 => let m21 := q0.1; let m22 := q0.2; some 0)))) else (some u3))
theorem l_r_noSits_37 {l : Launch} {D : va_G} {E : Nat → ClassId} {B : Nat → Prop} {n F : Nat} {Q : Option Value → HT → Prop} {T : Nat → Option (Nat × Nat)} {I : Nat → Nat → Int32} {J : Nat → Nat → Int64} {P : Nat → Nat → Option Nat} {z : Nat} {g1 : Int32} {g2 : Int32} (hs_z : isMd T P z)  (r : (Int32) ⊕ (Int32 × Int32)) : ∀ (k : Nat) (l3 : Int32) (l4 : Int32), r_noSits_37 F I J z g1 g2 k l3 l4 = some r → (match r with | .inl r => Q (some (.int r)) (n, T, I, J, P) | .inr r => V l D E B yX12_noSits cX12_noSits 7 (some .int) 2 0 0 Q 0 0 (n, T, I, J, P) 99 [(0, some (.ref z)), (1, some (.int g1)), (2, some (.int g2)), (3, some (.int (r.1))), (4, some (.int (r.2)))] []) → V l D E B yX12_noSits cX12_noSits 7 (some .int) 2 0 0 Q 0 0 (n, T, I, J, P) 37 [(0, some (.ref z)), (1, some (.int g1)), (2, some (.int g2)), (3, some (.int l3)), (4, some (.int l4))] [] := by
  intro k
  induction k with
  | zero =>
    intro l3 l4 hf hk
    cases hf
  | succ k ih =>
    intro l3 l4 hf hk
    unfold r_noSits_37 at hf
    refine V.iload dX12_noSits_37 rfl ?_
    refine V.aload_n dX12_noSits_39 rfl ?_
    refine V.getr fl_X12_73 dX12_noSits_40 (hs_z.1 0 (12, 0) rfl) (hs_z.2 0 34 19 rfl) (by decide) rfl ?_
    refine V.iload_n dX12_noSits_43 rfl ?_
    obtain ⟨hb7, hf⟩ := chk_some hf
    refine V.iald dX12_noSits_44 (hs_z.1 19 (20, 4) rfl) hb7 ?_
    refine V.icmp_ge 99 dX12_noSits_45 (by decide) (fun c8 => ?_) (fun c8 => ?_)
    · rw [if_pos c8] at hf
      obtain rfl := Option.some.inj hf
      exact V.lo [(0, some (.ref z)), (1, some (.int g1)), (2, some (.int g2)), (3, some (.int l3)), (4, some (.int l4))] (by simp only [Subs]; repeat' first | exact trivial | constructor | rfl) hk
    · rw [if_neg c8] at hf
      refine V.aload_n dX12_noSits_48 rfl ?_
      refine V.getr fl_X12_76 dX12_noSits_49 (hs_z.1 0 (12, 0) rfl) (hs_z.2 0 35 20 rfl) (by decide) rfl ?_
      refine V.bipush (v := 40) dX12_noSits_52 (by decide) ?_
      refine V.iload_n dX12_noSits_54 rfl ?_
      refine V.imul dX12_noSits_55 ?_
      refine V.iload dX12_noSits_56 rfl ?_
      refine V.iadd dX12_noSits_58 ?_
      obtain ⟨hb9, hf⟩ := chk_some hf
      refine V.lald dX12_noSits_59 (hs_z.1 20 (22, 160) rfl) hb9 ?_
      refine V.lstore dX12_noSits_60 (by decide) (by first | exact rfl | exact trivial) ?_
      obtain ⟨x10, e11⟩ : ∃ zz_, zz_ = (J (z + 20) (Int32.toNatClampNeg ((40 * g1) + l4))) := ⟨_, rfl⟩
      rw [← e11] at hf ⊢
      try dsimp only at hf
      refine V.aload_n dX12_noSits_62 rfl ?_
      refine V.lload dX12_noSits_63 rfl ?_
      obtain ⟨u14, hk13, hf⟩ := bnd_some hf
      try dsimp only at hf
      refine V.inv cv_X12_210 (c_r_isPerson hs_z hk13) dX12_noSits_65 (hs_z.1 0 (12, 0) rfl) (by decide) rfl rfl rfl (Nat.le_of_ble_eq_true rfl) (by decide) (by decide) (Nat.le_refl _) (Nat.le_refl _) (fun _ _ hq => ?_)
      obtain ⟨rfl, rfl⟩ := hq
      refine V.if_eq 82 dX12_noSits_68 (by decide) (fun c15 => ?_) (fun c15 => ?_)
      · rw [if_pos c15] at hf
        refine V.bipush (v := -3) dX12_noSits_82 (by decide) ?_
        obtain rfl := Option.some.inj hf
        exact V.iret dX12_noSits_84 rfl (Nat.le_refl _) (Nat.le_refl _) hk
      · rw [if_neg c15] at hf
        refine V.iload_n dX12_noSits_71 rfl ?_
        refine V.i2l dX12_noSits_72 ?_
        refine V.lload dX12_noSits_73 rfl ?_
        refine V.l2i dX12_noSits_75 ?_
        refine V.ins cs_X12_214 (c_r_isIn) dX12_noSits_76 rfl rfl (Nat.le_of_ble_eq_true rfl) (by decide) (by decide) (Nat.le_refl _) (Nat.le_refl _) (fun _ _ hq => ?_)
        obtain ⟨rfl, rfl⟩ := hq
        refine V.if_eq 85 dX12_noSits_79 (by decide) (fun c16 => ?_) (fun c16 => ?_)
        · rw [if_pos c16] at hf
          refine V.iload_n dX12_noSits_85 rfl ?_
          refine V.iconst (v := 1) dX12_noSits_86 (by decide) ?_
          refine V.lload dX12_noSits_87 rfl ?_
          refine V.l2i dX12_noSits_89 ?_
          refine V.ishl dX12_noSits_90 ?_
          refine V.ior dX12_noSits_91 ?_
          refine V.istore_n dX12_noSits_92 rfl (by decide) (by first | exact rfl | exact trivial) ?_
          obtain ⟨x17, e18⟩ : ∃ zz_, zz_ = (l3 ||| (1 <<< ((Int64.toInt32 x10) &&& 31))) := ⟨_, rfl⟩
          rw [← e18] at hf ⊢
          try dsimp only at hf
          refine V.iinc (v := (l4 + 1)) dX12_noSits_93 rfl rfl (by first | exact rfl | exact trivial) ?_
          refine V.goto 37 dX12_noSits_96 (by decide) ?_
          exact V.lo [(0, some (.ref z)), (1, some (.int g1)), (2, some (.int g2)), (3, some (.int x17)), (4, some (.int (l4 + 1)))] (by simp only [Subs]; repeat' first | exact trivial | constructor | rfl) (ih _ _ hf hk)
        · rw [if_neg c16] at hf
          refine V.bipush (v := -3) dX12_noSits_82 (by decide) ?_
          obtain rfl := Option.some.inj hf
          exact V.iret dX12_noSits_84 rfl (Nat.le_refl _) (Nat.le_refl _) hk
theorem c_r_noSits {l : Launch} {D : va_G} {E : Nat → ClassId} {B : Nat → Prop} {n F : Nat} {T : Nat → Option (Nat × Nat)} {I : Nat → Nat → Int32} {J : Nat → Nat → Int64} {P : Nat → Nat → Option Nat} {z : Nat} {v1 : Int32} {r : Int32} (hs_z : isMd T P z) (hf : r_noSits F I J z v1 = some r) : Ct l D E B yX12_noSits cX12_noSits 7 (some .int) 2 0 0 [.ref z, .int v1] (n, T, I, J, P) (Ret (some (.int r)) (n, T, I, J, P)) := by
  unfold r_noSits at hf
  refine Ct.ofV (by decide) (Nat.le_of_ble_eq_true rfl) ?_
  refine V.aload_n dX12_noSits_0 rfl ?_
  refine V.iload_n dX12_noSits_1 rfl ?_
  obtain ⟨u3, hk2, hf⟩ := bnd_some hf
  try dsimp only at hf
  refine V.inv cv_X12_318 (c_r_noTray hs_z hk2) dX12_noSits_2 (hs_z.1 0 (12, 0) rfl) (by decide) rfl rfl rfl (Nat.le_of_ble_eq_true rfl) (by decide) (by decide) (Nat.le_refl _) (Nat.le_refl _) (fun _ _ hq => ?_)
  obtain ⟨rfl, rfl⟩ := hq
  refine V.istore_n dX12_noSits_5 rfl (by decide) (by first | exact rfl | exact trivial) ?_
  refine V.iload_n dX12_noSits_6 rfl ?_
  refine V.if_eq 12 dX12_noSits_7 (by decide) (fun c4 => ?_) (fun c4 => ?_)
  · rw [if_pos c4] at hf
    refine V.aload_n dX12_noSits_12 rfl ?_
    refine V.getr fl_X12_73 dX12_noSits_13 (hs_z.1 0 (12, 0) rfl) (hs_z.2 0 34 19 rfl) (by decide) rfl ?_
    refine V.iload_n dX12_noSits_16 rfl ?_
    obtain ⟨hb5, hf⟩ := chk_some hf
    refine V.iald dX12_noSits_17 (hs_z.1 19 (20, 4) rfl) hb5 ?_
    refine V.i2l dX12_noSits_18 ?_
    refine V.lconst (v := 1) dX12_noSits_19 (by decide) ?_
    refine V.ldc2 dX12_noSits_20 kc_X12_393 ?_
    refine V.ins cs_X12_145 (c_r_within) dX12_noSits_23 rfl rfl (Nat.le_of_ble_eq_true rfl) (by decide) (by decide) (Nat.le_refl _) (Nat.le_refl _) (fun _ _ hq => ?_)
    obtain ⟨rfl, rfl⟩ := hq
    refine V.if_ne 32 dX12_noSits_26 (by decide) (fun c6 => ?_) (fun c6 => ?_)
    · rw [if_neg c6] at hf
      refine V.iconst (v := 0) dX12_noSits_32 (by decide) ?_
      refine V.istore_n dX12_noSits_33 rfl (by decide) (by first | exact rfl | exact trivial) ?_
      refine V.iconst (v := 0) dX12_noSits_34 (by decide) ?_
      refine V.istore dX12_noSits_35 (by decide) (by first | exact rfl | exact trivial) ?_
      obtain ⟨q19, hk20, hf⟩ := bnd_some hf
      refine V.lo [(0, some (.ref z)), (1, some (.int v1)), (2, some (.int u3)), (3, some (.int 0)), (4, some (.int 0))] (by simp only [Subs]; repeat' first | exact trivial | constructor | rfl) (l_r_noSits_37 hs_z q19 F _ _ hk20 ?_)
      rcases q19 with r0 | ⟨m21, m22⟩
      · try dsimp only at hf ⊢
        obtain rfl := Option.some.inj hf
        exact ⟨rfl, rfl⟩
      · try dsimp only at hf ⊢
        refine V.iconst (v := 0) dX12_noSits_99 (by decide) ?_
        obtain rfl := Option.some.inj hf
        exact V.iret dX12_noSits_100 rfl (Nat.le_refl _) (Nat.le_refl _) ⟨rfl, rfl⟩
    · rw [if_pos c6] at hf
      refine V.bipush (v := -4) dX12_noSits_29 (by decide) ?_
      obtain rfl := Option.some.inj hf
      exact V.iret dX12_noSits_31 rfl (Nat.le_refl _) (Nat.le_refl _) ⟨rfl, rfl⟩
  · rw [if_neg c4] at hf
    refine V.iload_n dX12_noSits_10 rfl ?_
    obtain rfl := Option.some.inj hf
    exact V.iret dX12_noSits_11 rfl (Nat.le_refl _) (Nat.le_refl _) ⟨rfl, rfl⟩
theorem dX12_leans_0 : decode cX12_leans 0 = .ok (.aload_n 0, 1) := by decide +kernel
theorem dX12_leans_1 : decode cX12_leans 1 = .ok (.iconst 0, 1) := by decide +kernel
theorem dX12_leans_2 : decode cX12_leans 2 = .ok (.putfield 1, 3) := by decide +kernel
theorem dX12_leans_5 : decode cX12_leans 5 = .ok (.aload_n 0, 1) := by decide +kernel
theorem dX12_leans_6 : decode cX12_leans 6 = .ok (.iload_n 1, 1) := by decide +kernel
theorem dX12_leans_7 : decode cX12_leans 7 = .ok (.iload_n 2, 1) := by decide +kernel
theorem dX12_leans_8 : decode cX12_leans 8 = .ok (.invokevirtual 348, 3) := by decide +kernel
theorem dX12_leans_11 : decode cX12_leans 11 = .ok (.istore_n 3, 1) := by decide +kernel
theorem dX12_leans_12 : decode cX12_leans 12 = .ok (.iload_n 3, 1) := by decide +kernel
theorem dX12_leans_13 : decode cX12_leans 13 = .ok (.ifCond .eq 5, 3) := by decide +kernel
theorem dX12_leans_16 : decode cX12_leans 16 = .ok (.iload_n 3, 1) := by decide +kernel
theorem dX12_leans_17 : decode cX12_leans 17 = .ok (.ireturn, 1) := by decide +kernel
theorem dX12_leans_18 : decode cX12_leans 18 = .ok (.aload_n 0, 1) := by decide +kernel
theorem dX12_leans_19 : decode cX12_leans 19 = .ok (.invokevirtual 264, 3) := by decide +kernel
theorem dX12_leans_22 : decode cX12_leans 22 = .ok (.aload_n 0, 1) := by decide +kernel
theorem dX12_leans_23 : decode cX12_leans 23 = .ok (.iload_n 1, 1) := by decide +kernel
theorem dX12_leans_24 : decode cX12_leans 24 = .ok (.iload_n 2, 1) := by decide +kernel
theorem dX12_leans_25 : decode cX12_leans 25 = .ok (.invokevirtual 351, 3) := by decide +kernel
theorem dX12_leans_28 : decode cX12_leans 28 = .ok (.istore 4, 2) := by decide +kernel
theorem dX12_leans_30 : decode cX12_leans 30 = .ok (.aload_n 0, 1) := by decide +kernel
theorem dX12_leans_31 : decode cX12_leans 31 = .ok (.invokevirtual 327, 3) := by decide +kernel
theorem dX12_leans_34 : decode cX12_leans 34 = .ok (.iconst 0, 1) := by decide +kernel
theorem dX12_leans_35 : decode cX12_leans 35 = .ok (.istore 5, 2) := by decide +kernel
theorem dX12_leans_37 : decode cX12_leans 37 = .ok (.iconst 0, 1) := by decide +kernel
theorem dX12_leans_38 : decode cX12_leans 38 = .ok (.istore 6, 2) := by decide +kernel
theorem dX12_leans_40 : decode cX12_leans 40 = .ok (.iload 6, 2) := by decide +kernel
theorem dX12_leans_42 : decode cX12_leans 42 = .ok (.aload_n 0, 1) := by decide +kernel
theorem dX12_leans_43 : decode cX12_leans 43 = .ok (.getfield 13, 3) := by decide +kernel
theorem dX12_leans_46 : decode cX12_leans 46 = .ok (.iconst 1, 1) := by decide +kernel
theorem dX12_leans_47 : decode cX12_leans 47 = .ok (.iaload, 1) := by decide +kernel
theorem dX12_leans_48 : decode cX12_leans 48 = .ok (.if_icmp .ge 61, 3) := by decide +kernel
theorem dX12_leans_51 : decode cX12_leans 51 = .ok (.iload 6, 2) := by decide +kernel
theorem dX12_leans_53 : decode cX12_leans 53 = .ok (.iload_n 2, 1) := by decide +kernel
theorem dX12_leans_54 : decode cX12_leans 54 = .ok (.if_icmp .eq 49, 3) := by decide +kernel
theorem dX12_leans_57 : decode cX12_leans 57 = .ok (.aload_n 0, 1) := by decide +kernel
theorem dX12_leans_58 : decode cX12_leans 58 = .ok (.iload 6, 2) := by decide +kernel
theorem dX12_leans_60 : decode cX12_leans 60 = .ok (.invokevirtual 218, 3) := by decide +kernel
theorem dX12_leans_63 : decode cX12_leans 63 = .ok (.ifCond .ne 6, 3) := by decide +kernel
theorem dX12_leans_66 : decode cX12_leans 66 = .ok (.goto 37, 3) := by decide +kernel
theorem dX12_leans_69 : decode cX12_leans 69 = .ok (.aload_n 0, 1) := by decide +kernel
theorem dX12_leans_70 : decode cX12_leans 70 = .ok (.iload 6, 2) := by decide +kernel
theorem dX12_leans_72 : decode cX12_leans 72 = .ok (.invokevirtual 277, 3) := by decide +kernel
theorem dX12_leans_75 : decode cX12_leans 75 = .ok (.iload 5, 2) := by decide +kernel
theorem dX12_leans_77 : decode cX12_leans 77 = .ok (.aload_n 0, 1) := by decide +kernel
theorem dX12_leans_78 : decode cX12_leans 78 = .ok (.iload_n 1, 1) := by decide +kernel
theorem dX12_leans_79 : decode cX12_leans 79 = .ok (.iload_n 2, 1) := by decide +kernel
theorem dX12_leans_80 : decode cX12_leans 80 = .ok (.invokevirtual 351, 3) := by decide +kernel
theorem dX12_leans_83 : decode cX12_leans 83 = .ok (.iload 4, 2) := by decide +kernel
theorem dX12_leans_85 : decode cX12_leans 85 = .ok (.if_icmp .ge 10, 3) := by decide +kernel
theorem dX12_leans_88 : decode cX12_leans 88 = .ok (.iconst 1, 1) := by decide +kernel
theorem dX12_leans_89 : decode cX12_leans 89 = .ok (.iload 6, 2) := by decide +kernel
theorem dX12_leans_91 : decode cX12_leans 91 = .ok (.ishl, 1) := by decide +kernel
theorem dX12_leans_92 : decode cX12_leans 92 = .ok (.goto 4, 3) := by decide +kernel
theorem dX12_leans_95 : decode cX12_leans 95 = .ok (.iconst 0, 1) := by decide +kernel
theorem dX12_leans_96 : decode cX12_leans 96 = .ok (.ior, 1) := by decide +kernel
theorem dX12_leans_97 : decode cX12_leans 97 = .ok (.istore 5, 2) := by decide +kernel
theorem dX12_leans_99 : decode cX12_leans 99 = .ok (.aload_n 0, 1) := by decide +kernel
theorem dX12_leans_100 : decode cX12_leans 100 = .ok (.invokevirtual 327, 3) := by decide +kernel
theorem dX12_leans_103 : decode cX12_leans 103 = .ok (.iinc 6 1, 3) := by decide +kernel
theorem dX12_leans_106 : decode cX12_leans 106 = .ok (.goto (-66), 3) := by decide +kernel
theorem dX12_leans_109 : decode cX12_leans 109 = .ok (.iload 5, 2) := by decide +kernel
theorem dX12_leans_111 : decode cX12_leans 111 = .ok (.ireturn, 1) := by decide +kernel
def r_leans_40 (F : Nat) (J : Nat → Nat → Int64) (z : Nat) (g1 : Int32) (g2 : Int32) (g3 : Int32) (g4 : Int32) : Nat → Int32 → Int32 → (Nat → Nat → Int32) → Option (Int32 × Int32 × (Nat → Nat → Int32))
  | 0, _, _, _ => none
  | k + 1, l5, l6, I => if (I (z + 1) (Int32.toNatClampNeg 1)) ≤ l6 then (some (l5, l6, I)) else (if l6 = g2 then (r_leans_40 F J z g1 g2 g3 g4 k l5 (l6 + 1) I) else ((r_isUp I z l6).bind (fun q19 => let u21 := q19; if u21 = 0 then (r_leans_40 F J z g1 g2 g3 g4 k l5 (l6 + 1) I) else ((r_sitsOwn I z l6).bind (fun q23 => let I25 := q23; (r_standsIn F I25 J z g1 g2).bind (fun q26 => let u28 := q26.1; let I29 := q26.2; if g4 ≤ u28 then (let x31 := (l5 ||| 0); (r_isAgain F I29 z).bind (fun q33 => let I35 := q33; r_leans_40 F J z g1 g2 g3 g4 k x31 (l6 + 1) I35)) else (let x36 := (l5 ||| (1 <<< (l6 &&& 31))); (r_isAgain F I29 z).bind (fun q38 => let I40 := q38; r_leans_40 F J z g1 g2 g3 g4 k x36 (l6 + 1) I40))))))))
def r_leans (F : Nat) (I : Nat → Nat → Int32) (J : Nat → Nat → Int64) (z : Nat) (v1 : Int32) (v2 : Int32) : Option (Int32 × (Nat → Nat → Int32)) := let I1 := uI I z 0 0; (r_noStands F I1 J z v1 v2).bind (fun q3 => let u5 := q3; if u5 = 0 then ((r_keeps F I1 z).bind (fun q7 => let I9 := q7; (r_standsIn F I9 J z v1 v2).bind (fun q10 => let u12 := q10.1; let I13 := q10.2; (r_isAgain F I13 z).bind (fun q14 => let I16 := q14; (r_leans_40 F J z v1 v2 u5 u12 F 0 0 I16).bind (fun q41 => let m43 := q41.1; let m44 := q41.2.1; let I45 := q41.2.2; some (m43, I45)))))) else (some (u5, I1)))
theorem l_r_leans_40 {l : Launch} {D : va_G} {E : Nat → ClassId} {B : Nat → Prop} {n F : Nat} {Q : Option Value → HT → Prop} {T : Nat → Option (Nat × Nat)} {J : Nat → Nat → Int64} {P : Nat → Nat → Option Nat} {z : Nat} {g1 : Int32} {g2 : Int32} {g3 : Int32} {g4 : Int32} (hs_z : isMd T P z)  (r : Int32 × Int32 × (Nat → Nat → Int32)) : ∀ (k : Nat) (l5 : Int32) (l6 : Int32) (I : (Nat → Nat → Int32)), r_leans_40 F J z g1 g2 g3 g4 k l5 l6 I = some r → V l D E B yX12_leans cX12_leans 7 (some .int) 7 0 0 Q 0 0 (n, T, r.2.2, J, P) 109 [(0, some (.ref z)), (1, some (.int g1)), (2, some (.int g2)), (3, some (.int g3)), (4, some (.int g4)), (5, some (.int (r.1))), (6, some (.int (r.2.1)))] [] → V l D E B yX12_leans cX12_leans 7 (some .int) 7 0 0 Q 0 0 (n, T, I, J, P) 40 [(0, some (.ref z)), (1, some (.int g1)), (2, some (.int g2)), (3, some (.int g3)), (4, some (.int g4)), (5, some (.int l5)), (6, some (.int l6))] [] := by
  intro k
  induction k with
  | zero =>
    intro l5 l6 I hf hk
    cases hf
  | succ k ih =>
    intro l5 l6 I hf hk
    unfold r_leans_40 at hf
    refine V.iload dX12_leans_40 rfl ?_
    refine V.aload_n dX12_leans_42 rfl ?_
    refine V.getr fl_X12_13 dX12_leans_43 (hs_z.1 0 (12, 0) rfl) (hs_z.2 0 1 1 rfl) (by decide) rfl ?_
    refine V.iconst (v := 1) dX12_leans_46 (by decide) ?_
    refine V.iald dX12_leans_47 (hs_z.1 1 (20, 3891) rfl) (vp_lit (by decide)) ?_
    refine V.icmp_ge 109 dX12_leans_48 (by decide) (fun c17 => ?_) (fun c17 => ?_)
    · rw [if_pos c17] at hf
      obtain rfl := Option.some.inj hf
      exact V.lo [(0, some (.ref z)), (1, some (.int g1)), (2, some (.int g2)), (3, some (.int g3)), (4, some (.int g4)), (5, some (.int l5)), (6, some (.int l6))] (by simp only [Subs]; repeat' first | exact trivial | constructor | rfl) hk
    · rw [if_neg c17] at hf
      refine V.iload dX12_leans_51 rfl ?_
      refine V.iload_n dX12_leans_53 rfl ?_
      refine V.icmp_eq 103 dX12_leans_54 (by decide) (fun c18 => ?_) (fun c18 => ?_)
      · rw [if_pos c18] at hf
        refine V.iinc (v := (l6 + 1)) dX12_leans_103 rfl rfl (by first | exact rfl | exact trivial) ?_
        refine V.goto 40 dX12_leans_106 (by decide) ?_
        exact V.lo [(0, some (.ref z)), (1, some (.int g1)), (2, some (.int g2)), (3, some (.int g3)), (4, some (.int g4)), (5, some (.int l5)), (6, some (.int (l6 + 1)))] (by simp only [Subs]; repeat' first | exact trivial | constructor | rfl) (ih _ _ _ hf hk)
      · rw [if_neg c18] at hf
        refine V.aload_n dX12_leans_57 rfl ?_
        refine V.iload dX12_leans_58 rfl ?_
        obtain ⟨u21, hk20, hf⟩ := bnd_some hf
        try dsimp only at hf
        refine V.inv cv_X12_218 (c_r_isUp hs_z hk20) dX12_leans_60 (hs_z.1 0 (12, 0) rfl) (by decide) rfl rfl rfl (Nat.le_of_ble_eq_true rfl) (by decide) (by decide) (Nat.le_refl _) (Nat.le_refl _) (fun _ _ hq => ?_)
        obtain ⟨rfl, rfl⟩ := hq
        refine V.if_ne 69 dX12_leans_63 (by decide) (fun c22 => ?_) (fun c22 => ?_)
        · rw [if_neg c22] at hf
          refine V.aload_n dX12_leans_69 rfl ?_
          refine V.iload dX12_leans_70 rfl ?_
          obtain ⟨I25, hk24, hf⟩ := bnd_some hf
          try dsimp only at hf
          refine V.inv cv_X12_277 (c_r_sitsOwn hs_z hk24) dX12_leans_72 (hs_z.1 0 (12, 0) rfl) (by decide) rfl rfl rfl (Nat.le_of_ble_eq_true rfl) (by decide) (by decide) (Nat.le_refl _) (Nat.le_refl _) (fun _ _ hq => ?_)
          obtain ⟨rfl, rfl⟩ := hq
          refine V.iload dX12_leans_75 rfl ?_
          refine V.aload_n dX12_leans_77 rfl ?_
          refine V.iload_n dX12_leans_78 rfl ?_
          refine V.iload_n dX12_leans_79 rfl ?_
          obtain ⟨⟨u28, I29⟩, hk27, hf⟩ := bnd_some hf
          try dsimp only at hf
          refine V.inv cv_X12_351 (c_r_standsIn hs_z hk27) dX12_leans_80 (hs_z.1 0 (12, 0) rfl) (by decide) rfl rfl rfl (Nat.le_of_ble_eq_true rfl) (by decide) (by decide) (Nat.le_refl _) (Nat.le_refl _) (fun _ _ hq => ?_)
          obtain ⟨rfl, rfl⟩ := hq
          try dsimp only
          refine V.iload dX12_leans_83 rfl ?_
          refine V.icmp_ge 95 dX12_leans_85 (by decide) (fun c30 => ?_) (fun c30 => ?_)
          · rw [if_pos c30] at hf
            refine V.iconst (v := 0) dX12_leans_95 (by decide) ?_
            refine V.ior dX12_leans_96 ?_
            refine V.istore dX12_leans_97 (by decide) (by first | exact rfl | exact trivial) ?_
            obtain ⟨x31, e32⟩ : ∃ zz_, zz_ = (l5 ||| 0) := ⟨_, rfl⟩
            rw [← e32] at hf ⊢
            try dsimp only at hf
            refine V.aload_n dX12_leans_99 rfl ?_
            obtain ⟨I35, hk34, hf⟩ := bnd_some hf
            try dsimp only at hf
            refine V.inv cv_X12_327 (c_r_isAgain hs_z hk34) dX12_leans_100 (hs_z.1 0 (12, 0) rfl) (by decide) rfl rfl rfl (Nat.le_of_ble_eq_true rfl) (by decide) (by decide) (Nat.le_refl _) (Nat.le_refl _) (fun _ _ hq => ?_)
            obtain ⟨rfl, rfl⟩ := hq
            refine V.iinc (v := (l6 + 1)) dX12_leans_103 rfl rfl (by first | exact rfl | exact trivial) ?_
            refine V.goto 40 dX12_leans_106 (by decide) ?_
            exact V.lo [(0, some (.ref z)), (1, some (.int g1)), (2, some (.int g2)), (3, some (.int g3)), (4, some (.int g4)), (5, some (.int x31)), (6, some (.int (l6 + 1)))] (by simp only [Subs]; repeat' first | exact trivial | constructor | rfl) (ih _ _ _ hf hk)
          · rw [if_neg c30] at hf
            refine V.iconst (v := 1) dX12_leans_88 (by decide) ?_
            refine V.iload dX12_leans_89 rfl ?_
            refine V.ishl dX12_leans_91 ?_
            refine V.goto 96 dX12_leans_92 (by decide) ?_
            refine V.ior dX12_leans_96 ?_
            refine V.istore dX12_leans_97 (by decide) (by first | exact rfl | exact trivial) ?_
            obtain ⟨x36, e37⟩ : ∃ zz_, zz_ = (l5 ||| (1 <<< (l6 &&& 31))) := ⟨_, rfl⟩
            rw [← e37] at hf ⊢
            try dsimp only at hf
            refine V.aload_n dX12_leans_99 rfl ?_
            obtain ⟨I40, hk39, hf⟩ := bnd_some hf
            try dsimp only at hf
            refine V.inv cv_X12_327 (c_r_isAgain hs_z hk39) dX12_leans_100 (hs_z.1 0 (12, 0) rfl) (by decide) rfl rfl rfl (Nat.le_of_ble_eq_true rfl) (by decide) (by decide) (Nat.le_refl _) (Nat.le_refl _) (fun _ _ hq => ?_)
            obtain ⟨rfl, rfl⟩ := hq
            refine V.iinc (v := (l6 + 1)) dX12_leans_103 rfl rfl (by first | exact rfl | exact trivial) ?_
            refine V.goto 40 dX12_leans_106 (by decide) ?_
            exact V.lo [(0, some (.ref z)), (1, some (.int g1)), (2, some (.int g2)), (3, some (.int g3)), (4, some (.int g4)), (5, some (.int x36)), (6, some (.int (l6 + 1)))] (by simp only [Subs]; repeat' first | exact trivial | constructor | rfl) (ih _ _ _ hf hk)
        · rw [if_pos c22] at hf
          refine V.goto 103 dX12_leans_66 (by decide) ?_
          refine V.iinc (v := (l6 + 1)) dX12_leans_103 rfl rfl (by first | exact rfl | exact trivial) ?_
          refine V.goto 40 dX12_leans_106 (by decide) ?_
          exact V.lo [(0, some (.ref z)), (1, some (.int g1)), (2, some (.int g2)), (3, some (.int g3)), (4, some (.int g4)), (5, some (.int l5)), (6, some (.int (l6 + 1)))] (by simp only [Subs]; repeat' first | exact trivial | constructor | rfl) (ih _ _ _ hf hk)
theorem c_r_leans {l : Launch} {D : va_G} {E : Nat → ClassId} {B : Nat → Prop} {n F : Nat} {T : Nat → Option (Nat × Nat)} {I : Nat → Nat → Int32} {J : Nat → Nat → Int64} {P : Nat → Nat → Option Nat} {z : Nat} {v1 : Int32} {v2 : Int32} {r : Int32 × (Nat → Nat → Int32)} (hs_z : isMd T P z) (hf : r_leans F I J z v1 v2 = some r) : Ct l D E B yX12_leans cX12_leans 7 (some .int) 7 0 0 [.ref z, .int v1, .int v2] (n, T, I, J, P) (Ret (some (.int r.1)) (n, T, r.2, J, P)) := by
  unfold r_leans at hf
  refine Ct.ofV (by decide) (Nat.le_of_ble_eq_true rfl) ?_
  refine V.aload_n dX12_leans_0 rfl ?_
  refine V.iconst (v := 0) dX12_leans_1 (by decide) ?_
  refine V.putiE fl_X12_1 dX12_leans_2 (hs_z.1 0 (12, 0) rfl) (by decide) (fun h => by cases h) rfl rfl rfl (Nat.le_of_ble_eq_true rfl) (fun I1 e2 => ?_)
  rw [← e2] at hf
  try dsimp only at hf
  clear e2
  refine V.aload_n dX12_leans_5 rfl ?_
  refine V.iload_n dX12_leans_6 rfl ?_
  refine V.iload_n dX12_leans_7 rfl ?_
  obtain ⟨u5, hk4, hf⟩ := bnd_some hf
  try dsimp only at hf
  refine V.inv cv_X12_348 (c_r_noStands hs_z hk4) dX12_leans_8 (hs_z.1 0 (12, 0) rfl) (by decide) rfl rfl rfl (Nat.le_of_ble_eq_true rfl) (by decide) (by decide) (Nat.le_refl _) (Nat.le_refl _) (fun _ _ hq => ?_)
  obtain ⟨rfl, rfl⟩ := hq
  refine V.istore_n dX12_leans_11 rfl (by decide) (by first | exact rfl | exact trivial) ?_
  refine V.iload_n dX12_leans_12 rfl ?_
  refine V.if_eq 18 dX12_leans_13 (by decide) (fun c6 => ?_) (fun c6 => ?_)
  · rw [if_pos c6] at hf
    refine V.aload_n dX12_leans_18 rfl ?_
    obtain ⟨I9, hk8, hf⟩ := bnd_some hf
    try dsimp only at hf
    refine V.inv cv_X12_264 (c_r_keeps hs_z hk8) dX12_leans_19 (hs_z.1 0 (12, 0) rfl) (by decide) rfl rfl rfl (Nat.le_of_ble_eq_true rfl) (by decide) (by decide) (Nat.le_refl _) (Nat.le_refl _) (fun _ _ hq => ?_)
    obtain ⟨rfl, rfl⟩ := hq
    refine V.aload_n dX12_leans_22 rfl ?_
    refine V.iload_n dX12_leans_23 rfl ?_
    refine V.iload_n dX12_leans_24 rfl ?_
    obtain ⟨⟨u12, I13⟩, hk11, hf⟩ := bnd_some hf
    try dsimp only at hf
    refine V.inv cv_X12_351 (c_r_standsIn hs_z hk11) dX12_leans_25 (hs_z.1 0 (12, 0) rfl) (by decide) rfl rfl rfl (Nat.le_of_ble_eq_true rfl) (by decide) (by decide) (Nat.le_refl _) (Nat.le_refl _) (fun _ _ hq => ?_)
    obtain ⟨rfl, rfl⟩ := hq
    try dsimp only
    refine V.istore dX12_leans_28 (by decide) (by first | exact rfl | exact trivial) ?_
    refine V.aload_n dX12_leans_30 rfl ?_
    obtain ⟨I16, hk15, hf⟩ := bnd_some hf
    try dsimp only at hf
    refine V.inv cv_X12_327 (c_r_isAgain hs_z hk15) dX12_leans_31 (hs_z.1 0 (12, 0) rfl) (by decide) rfl rfl rfl (Nat.le_of_ble_eq_true rfl) (by decide) (by decide) (Nat.le_refl _) (Nat.le_refl _) (fun _ _ hq => ?_)
    obtain ⟨rfl, rfl⟩ := hq
    refine V.iconst (v := 0) dX12_leans_34 (by decide) ?_
    refine V.istore dX12_leans_35 (by decide) (by first | exact rfl | exact trivial) ?_
    refine V.iconst (v := 0) dX12_leans_37 (by decide) ?_
    refine V.istore dX12_leans_38 (by decide) (by first | exact rfl | exact trivial) ?_
    obtain ⟨⟨m43, m44, I45⟩, hk42, hf⟩ := bnd_some hf
    try dsimp only at hf
    refine V.lo [(0, some (.ref z)), (1, some (.int v1)), (2, some (.int v2)), (3, some (.int u5)), (4, some (.int u12)), (5, some (.int 0)), (6, some (.int 0))] (by simp only [Subs]; repeat' first | exact trivial | constructor | rfl) (l_r_leans_40 hs_z _ F _ _ _ hk42 ?_)
    try dsimp only
    refine V.iload dX12_leans_109 rfl ?_
    obtain rfl := Option.some.inj hf
    exact V.iret dX12_leans_111 rfl (Nat.le_refl _) (Nat.le_refl _) ⟨rfl, rfl⟩
  · rw [if_neg c6] at hf
    refine V.iload_n dX12_leans_16 rfl ?_
    obtain rfl := Option.some.inj hf
    exact V.iret dX12_leans_17 rfl (Nat.le_refl _) (Nat.le_refl _) ⟨rfl, rfl⟩
theorem dX12_isWhat_0 : decode cX12_isWhat 0 = .ok (.iload_n 0, 1) := by decide +kernel
theorem dX12_isWhat_1 : decode cX12_isWhat 1 = .ok (.i2l, 1) := by decide +kernel
theorem dX12_isWhat_2 : decode cX12_isWhat 2 = .ok (.lconst 0, 1) := by decide +kernel
theorem dX12_isWhat_3 : decode cX12_isWhat 3 = .ok (.lconst 1, 1) := by decide +kernel
theorem dX12_isWhat_4 : decode cX12_isWhat 4 = .ok (.invokestatic 145, 3) := by decide +kernel
theorem dX12_isWhat_7 : decode cX12_isWhat 7 = .ok (.ireturn, 1) := by decide +kernel
def r_isWhat (v0 : Int32) : Option (Int32) := isb (r_within (Int32.toInt64 v0) 0 1) (some (r_within (Int32.toInt64 v0) 0 1))
theorem c_r_isWhat {l : Launch} {D : va_G} {E : Nat → ClassId} {B : Nat → Prop} {n : Nat} {T : Nat → Option (Nat × Nat)} {I : Nat → Nat → Int32} {J : Nat → Nat → Int64} {P : Nat → Nat → Option Nat}  {v0 : Int32} {r : Int32}  (hf : r_isWhat v0 = some r) : Ct l D E B yX12_isWhat cX12_isWhat 1 (some .boolean) 1 0 0 [.int v0] (n, T, I, J, P) (Ret (some (.int r)) (n, T, I, J, P)) := by
  unfold r_isWhat at hf
  refine Ct.ofV (by decide) (Nat.le_of_ble_eq_true rfl) ?_
  refine V.iload_n dX12_isWhat_0 rfl ?_
  refine V.i2l dX12_isWhat_1 ?_
  refine V.lconst (v := 0) dX12_isWhat_2 (by decide) ?_
  refine V.lconst (v := 1) dX12_isWhat_3 (by decide) ?_
  refine V.ins cs_X12_145 (c_r_within) dX12_isWhat_4 rfl rfl (Nat.le_of_ble_eq_true rfl) (by decide) (by decide) (Nat.le_refl _) (Nat.le_refl _) (fun _ _ hq => ?_)
  obtain ⟨rfl, rfl⟩ := hq
  obtain ⟨hn1, hf⟩ := isb_some hf
  obtain rfl := Option.some.inj hf
  exact V.zret dX12_isWhat_7 rfl hn1 (Nat.le_refl _) (Nat.le_refl _) ⟨rfl, rfl⟩
theorem dX12_chairs_0 : decode cX12_chairs 0 = .ok (.aload_n 0, 1) := by decide +kernel
theorem dX12_chairs_1 : decode cX12_chairs 1 = .ok (.iconst 0, 1) := by decide +kernel
theorem dX12_chairs_2 : decode cX12_chairs 2 = .ok (.putfield 1, 3) := by decide +kernel
theorem dX12_chairs_5 : decode cX12_chairs 5 = .ok (.iload_n 3, 1) := by decide +kernel
theorem dX12_chairs_6 : decode cX12_chairs 6 = .ok (.invokestatic 408, 3) := by decide +kernel
theorem dX12_chairs_9 : decode cX12_chairs 9 = .ok (.ifCond .ne 6, 3) := by decide +kernel
theorem dX12_chairs_12 : decode cX12_chairs 12 = .ok (.bipush (-2), 2) := by decide +kernel
theorem dX12_chairs_14 : decode cX12_chairs 14 = .ok (.ireturn, 1) := by decide +kernel
theorem dX12_chairs_15 : decode cX12_chairs 15 = .ok (.aload_n 0, 1) := by decide +kernel
theorem dX12_chairs_16 : decode cX12_chairs 16 = .ok (.iload_n 1, 1) := by decide +kernel
theorem dX12_chairs_17 : decode cX12_chairs 17 = .ok (.iload_n 2, 1) := by decide +kernel
theorem dX12_chairs_18 : decode cX12_chairs 18 = .ok (.invokevirtual 348, 3) := by decide +kernel
theorem dX12_chairs_21 : decode cX12_chairs 21 = .ok (.istore 4, 2) := by decide +kernel
theorem dX12_chairs_23 : decode cX12_chairs 23 = .ok (.iload 4, 2) := by decide +kernel
theorem dX12_chairs_25 : decode cX12_chairs 25 = .ok (.ifCond .eq 6, 3) := by decide +kernel
theorem dX12_chairs_28 : decode cX12_chairs 28 = .ok (.iload 4, 2) := by decide +kernel
theorem dX12_chairs_30 : decode cX12_chairs 30 = .ok (.ireturn, 1) := by decide +kernel
theorem dX12_chairs_31 : decode cX12_chairs 31 = .ok (.aload_n 0, 1) := by decide +kernel
theorem dX12_chairs_32 : decode cX12_chairs 32 = .ok (.invokevirtual 264, 3) := by decide +kernel
theorem dX12_chairs_35 : decode cX12_chairs 35 = .ok (.aload_n 0, 1) := by decide +kernel
theorem dX12_chairs_36 : decode cX12_chairs 36 = .ok (.getfield 13, 3) := by decide +kernel
theorem dX12_chairs_39 : decode cX12_chairs 39 = .ok (.bipush 32, 2) := by decide +kernel
theorem dX12_chairs_41 : decode cX12_chairs 41 = .ok (.iaload, 1) := by decide +kernel
theorem dX12_chairs_42 : decode cX12_chairs 42 = .ok (.iconst 1, 1) := by decide +kernel
theorem dX12_chairs_43 : decode cX12_chairs 43 = .ok (.iload_n 2, 1) := by decide +kernel
theorem dX12_chairs_44 : decode cX12_chairs 44 = .ok (.ishl, 1) := by decide +kernel
theorem dX12_chairs_45 : decode cX12_chairs 45 = .ok (.iconst (-1), 1) := by decide +kernel
theorem dX12_chairs_46 : decode cX12_chairs 46 = .ok (.ixor, 1) := by decide +kernel
theorem dX12_chairs_47 : decode cX12_chairs 47 = .ok (.iand, 1) := by decide +kernel
theorem dX12_chairs_48 : decode cX12_chairs 48 = .ok (.istore 5, 2) := by decide +kernel
theorem dX12_chairs_50 : decode cX12_chairs 50 = .ok (.iconst (-1), 1) := by decide +kernel
theorem dX12_chairs_51 : decode cX12_chairs 51 = .ok (.istore 6, 2) := by decide +kernel
theorem dX12_chairs_53 : decode cX12_chairs 53 = .ok (.iconst 0, 1) := by decide +kernel
theorem dX12_chairs_54 : decode cX12_chairs 54 = .ok (.istore 7, 2) := by decide +kernel
theorem dX12_chairs_56 : decode cX12_chairs 56 = .ok (.iload 7, 2) := by decide +kernel
theorem dX12_chairs_58 : decode cX12_chairs 58 = .ok (.iload 5, 2) := by decide +kernel
theorem dX12_chairs_60 : decode cX12_chairs 60 = .ok (.if_icmp .gt 106, 3) := by decide +kernel
theorem dX12_chairs_63 : decode cX12_chairs 63 = .ok (.iload 7, 2) := by decide +kernel
theorem dX12_chairs_65 : decode cX12_chairs 65 = .ok (.iload 5, 2) := by decide +kernel
theorem dX12_chairs_67 : decode cX12_chairs 67 = .ok (.iconst (-1), 1) := by decide +kernel
theorem dX12_chairs_68 : decode cX12_chairs 68 = .ok (.ixor, 1) := by decide +kernel
theorem dX12_chairs_69 : decode cX12_chairs 69 = .ok (.iand, 1) := by decide +kernel
theorem dX12_chairs_70 : decode cX12_chairs 70 = .ok (.ifCond .ne 90, 3) := by decide +kernel
theorem dX12_chairs_73 : decode cX12_chairs 73 = .ok (.iload 6, 2) := by decide +kernel
theorem dX12_chairs_75 : decode cX12_chairs 75 = .ok (.iconst (-1), 1) := by decide +kernel
theorem dX12_chairs_76 : decode cX12_chairs 76 = .ok (.if_icmp .eq 19, 3) := by decide +kernel
theorem dX12_chairs_79 : decode cX12_chairs 79 = .ok (.iload 7, 2) := by decide +kernel
theorem dX12_chairs_81 : decode cX12_chairs 81 = .ok (.invokestatic 230, 3) := by decide +kernel
theorem dX12_chairs_84 : decode cX12_chairs 84 = .ok (.iload 6, 2) := by decide +kernel
theorem dX12_chairs_86 : decode cX12_chairs 86 = .ok (.invokestatic 230, 3) := by decide +kernel
theorem dX12_chairs_89 : decode cX12_chairs 89 = .ok (.if_icmp .lt 6, 3) := by decide +kernel
theorem dX12_chairs_92 : decode cX12_chairs 92 = .ok (.goto 68, 3) := by decide +kernel
theorem dX12_chairs_95 : decode cX12_chairs 95 = .ok (.iconst 0, 1) := by decide +kernel
theorem dX12_chairs_96 : decode cX12_chairs 96 = .ok (.istore 8, 2) := by decide +kernel
theorem dX12_chairs_98 : decode cX12_chairs 98 = .ok (.iload 8, 2) := by decide +kernel
theorem dX12_chairs_100 : decode cX12_chairs 100 = .ok (.aload_n 0, 1) := by decide +kernel
theorem dX12_chairs_101 : decode cX12_chairs 101 = .ok (.getfield 13, 3) := by decide +kernel
theorem dX12_chairs_104 : decode cX12_chairs 104 = .ok (.iconst 1, 1) := by decide +kernel
theorem dX12_chairs_105 : decode cX12_chairs 105 = .ok (.iaload, 1) := by decide +kernel
theorem dX12_chairs_106 : decode cX12_chairs 106 = .ok (.if_icmp .ge 26, 3) := by decide +kernel
theorem dX12_chairs_109 : decode cX12_chairs 109 = .ok (.iload 7, 2) := by decide +kernel
theorem dX12_chairs_111 : decode cX12_chairs 111 = .ok (.i2l, 1) := by decide +kernel
theorem dX12_chairs_112 : decode cX12_chairs 112 = .ok (.iload 8, 2) := by decide +kernel
theorem dX12_chairs_114 : decode cX12_chairs 114 = .ok (.invokestatic 214, 3) := by decide +kernel
theorem dX12_chairs_117 : decode cX12_chairs 117 = .ok (.ifCond .eq 9, 3) := by decide +kernel
theorem dX12_chairs_120 : decode cX12_chairs 120 = .ok (.aload_n 0, 1) := by decide +kernel
theorem dX12_chairs_121 : decode cX12_chairs 121 = .ok (.iload 8, 2) := by decide +kernel
theorem dX12_chairs_123 : decode cX12_chairs 123 = .ok (.invokevirtual 277, 3) := by decide +kernel
theorem dX12_chairs_126 : decode cX12_chairs 126 = .ok (.iinc 8 1, 3) := by decide +kernel
theorem dX12_chairs_129 : decode cX12_chairs 129 = .ok (.goto (-31), 3) := by decide +kernel
theorem dX12_chairs_132 : decode cX12_chairs 132 = .ok (.aload_n 0, 1) := by decide +kernel
theorem dX12_chairs_133 : decode cX12_chairs 133 = .ok (.iload_n 1, 1) := by decide +kernel
theorem dX12_chairs_134 : decode cX12_chairs 134 = .ok (.iconst 0, 1) := by decide +kernel
theorem dX12_chairs_135 : decode cX12_chairs 135 = .ok (.aload_n 0, 1) := by decide +kernel
theorem dX12_chairs_136 : decode cX12_chairs 136 = .ok (.getfield 73, 3) := by decide +kernel
theorem dX12_chairs_139 : decode cX12_chairs 139 = .ok (.iload_n 1, 1) := by decide +kernel
theorem dX12_chairs_140 : decode cX12_chairs 140 = .ok (.iaload, 1) := by decide +kernel
theorem dX12_chairs_141 : decode cX12_chairs 141 = .ok (.invokevirtual 354, 3) := by decide +kernel
theorem dX12_chairs_144 : decode cX12_chairs 144 = .ok (.aload_n 0, 1) := by decide +kernel
theorem dX12_chairs_145 : decode cX12_chairs 145 = .ok (.iload_n 2, 1) := by decide +kernel
theorem dX12_chairs_146 : decode cX12_chairs 146 = .ok (.invokevirtual 244, 3) := by decide +kernel
theorem dX12_chairs_149 : decode cX12_chairs 149 = .ok (.ifCond .ne 7, 3) := by decide +kernel
theorem dX12_chairs_152 : decode cX12_chairs 152 = .ok (.iload 7, 2) := by decide +kernel
theorem dX12_chairs_154 : decode cX12_chairs 154 = .ok (.istore 6, 2) := by decide +kernel
theorem dX12_chairs_156 : decode cX12_chairs 156 = .ok (.aload_n 0, 1) := by decide +kernel
theorem dX12_chairs_157 : decode cX12_chairs 157 = .ok (.invokevirtual 327, 3) := by decide +kernel
theorem dX12_chairs_160 : decode cX12_chairs 160 = .ok (.iinc 7 1, 3) := by decide +kernel
theorem dX12_chairs_163 : decode cX12_chairs 163 = .ok (.goto (-107), 3) := by decide +kernel
theorem dX12_chairs_166 : decode cX12_chairs 166 = .ok (.iload 6, 2) := by decide +kernel
theorem dX12_chairs_168 : decode cX12_chairs 168 = .ok (.iconst (-1), 1) := by decide +kernel
theorem dX12_chairs_169 : decode cX12_chairs 169 = .ok (.if_icmp .eq 8, 3) := by decide +kernel
theorem dX12_chairs_172 : decode cX12_chairs 172 = .ok (.iload_n 3, 1) := by decide +kernel
theorem dX12_chairs_173 : decode cX12_chairs 173 = .ok (.iconst 1, 1) := by decide +kernel
theorem dX12_chairs_174 : decode cX12_chairs 174 = .ok (.if_icmp .ne 8, 3) := by decide +kernel
theorem dX12_chairs_177 : decode cX12_chairs 177 = .ok (.iload 6, 2) := by decide +kernel
theorem dX12_chairs_179 : decode cX12_chairs 179 = .ok (.goto 8, 3) := by decide +kernel
theorem dX12_chairs_182 : decode cX12_chairs 182 = .ok (.iload 6, 2) := by decide +kernel
theorem dX12_chairs_184 : decode cX12_chairs 184 = .ok (.invokestatic 230, 3) := by decide +kernel
theorem dX12_chairs_187 : decode cX12_chairs 187 = .ok (.ireturn, 1) := by decide +kernel
def r_chairs_98 (F : Nat) (z : Nat) (g1 : Int32) (g2 : Int32) (g3 : Int32) (g4 : Int32) (g5 : Int32) (g6 : Int32) (g7 : Int32) : Nat → Int32 → (Nat → Nat → Int32) → Option (Int32 × (Nat → Nat → Int32))
  | 0, _, _ => none
  | k + 1, l8, I => if (I (z + 1) (Int32.toNatClampNeg 1)) ≤ l8 then (some (l8, I)) else (if (r_isIn (Int32.toInt64 g7) l8) = 0 then (r_chairs_98 F z g1 g2 g3 g4 g5 g6 g7 k (l8 + 1) I) else ((r_sitsOwn I z l8).bind (fun q21 => let I23 := q21; r_chairs_98 F z g1 g2 g3 g4 g5 g6 g7 k (l8 + 1) I23)))
def r_chairs_56 (F : Nat) (J : Nat → Nat → Int64) (z : Nat) (g1 : Int32) (g2 : Int32) (g3 : Int32) (g4 : Int32) (g5 : Int32) : Nat → Int32 → Int32 → (Nat → Nat → Int32) → Option (Int32 × Int32 × (Nat → Nat → Int32))
  | 0, _, _, _ => none
  | k + 1, l6, l7, I => if g5 < l7 then (some (l6, l7, I)) else (if (l7 &&& (g5 ^^^ (-1))) = 0 then (if l6 = (-1) then ((r_chairs_98 F z g1 g2 g3 g4 g5 l6 l7 F 0 I).bind (fun q24 => let m26 := q24.1; let I27 := q24.2; chk g1 4 ((r_goes F I27 J z g1 0 (I27 (z + 19) (Int32.toNatClampNeg g1))).bind (fun q29 => let I31 := q29; (r_placeOf F I31 z g2).bind (fun q32 => let u34 := q32; if u34 = 0 then ((r_isAgain F I31 z).bind (fun q39 => let I41 := q39; r_chairs_56 F J z g1 g2 g3 g4 g5 k l7 (l7 + 1) I41)) else ((r_isAgain F I31 z).bind (fun q36 => let I38 := q36; r_chairs_56 F J z g1 g2 g3 g4 g5 k l6 (l7 + 1) I38))))))) else ((r_bitsOf F l7).bind (fun q42 => let u44 := q42; (r_bitsOf F l6).bind (fun q45 => let u47 := q45; if u44 < u47 then ((r_chairs_98 F z g1 g2 g3 g4 g5 l6 l7 F 0 I).bind (fun q49 => let m51 := q49.1; let I52 := q49.2; chk g1 4 ((r_goes F I52 J z g1 0 (I52 (z + 19) (Int32.toNatClampNeg g1))).bind (fun q54 => let I56 := q54; (r_placeOf F I56 z g2).bind (fun q57 => let u59 := q57; if u59 = 0 then ((r_isAgain F I56 z).bind (fun q64 => let I66 := q64; r_chairs_56 F J z g1 g2 g3 g4 g5 k l7 (l7 + 1) I66)) else ((r_isAgain F I56 z).bind (fun q61 => let I63 := q61; r_chairs_56 F J z g1 g2 g3 g4 g5 k l6 (l7 + 1) I63))))))) else (r_chairs_56 F J z g1 g2 g3 g4 g5 k l6 (l7 + 1) I))))) else (r_chairs_56 F J z g1 g2 g3 g4 g5 k l6 (l7 + 1) I))
def r_chairs (F : Nat) (I : Nat → Nat → Int32) (J : Nat → Nat → Int64) (z : Nat) (v1 : Int32) (v2 : Int32) (v3 : Int32) : Option (Int32 × (Nat → Nat → Int32)) := let I1 := uI I z 0 0; (r_isWhat v3).bind (fun q3 => let u5 := q3; if u5 = 0 then (some ((-2), I1)) else ((r_noStands F I1 J z v1 v2).bind (fun q7 => let u9 := q7; if u9 = 0 then ((r_keeps F I1 z).bind (fun q11 => let I13 := q11; let x14 := ((I13 (z + 1) (Int32.toNatClampNeg 32)) &&& ((1 <<< (v2 &&& 31)) ^^^ (-1))); (r_chairs_56 F J z v1 v2 v3 u9 x14 F (-1) 0 I13).bind (fun q67 => let m69 := q67.1; let m70 := q67.2.1; let I71 := q67.2.2; if m69 = (-1) then (some (m69, I71)) else (if v3 = 1 then (some (m69, I71)) else ((r_bitsOf F m69).bind (fun q74 => let u76 := q74; some (u76, I71))))))) else (some (u9, I1)))))
theorem l_r_chairs_98 {l : Launch} {D : va_G} {E : Nat → ClassId} {B : Nat → Prop} {n F : Nat} {Q : Option Value → HT → Prop} {T : Nat → Option (Nat × Nat)} {J : Nat → Nat → Int64} {P : Nat → Nat → Option Nat} {z : Nat} {g1 : Int32} {g2 : Int32} {g3 : Int32} {g4 : Int32} {g5 : Int32} {g6 : Int32} {g7 : Int32} (hs_z : isMd T P z)  (r : Int32 × (Nat → Nat → Int32)) : ∀ (k : Nat) (l8 : Int32) (I : (Nat → Nat → Int32)), r_chairs_98 F z g1 g2 g3 g4 g5 g6 g7 k l8 I = some r → V l D E B yX12_chairs cX12_chairs 9 (some .int) 7 0 0 Q 0 0 (n, T, r.2, J, P) 132 [(0, some (.ref z)), (1, some (.int g1)), (2, some (.int g2)), (3, some (.int g3)), (4, some (.int g4)), (5, some (.int g5)), (6, some (.int g6)), (7, some (.int g7)), (8, some (.int (r.1)))] [] → V l D E B yX12_chairs cX12_chairs 9 (some .int) 7 0 0 Q 0 0 (n, T, I, J, P) 98 [(0, some (.ref z)), (1, some (.int g1)), (2, some (.int g2)), (3, some (.int g3)), (4, some (.int g4)), (5, some (.int g5)), (6, some (.int g6)), (7, some (.int g7)), (8, some (.int l8))] [] := by
  intro k
  induction k with
  | zero =>
    intro l8 I hf hk
    cases hf
  | succ k ih =>
    intro l8 I hf hk
    unfold r_chairs_98 at hf
    refine V.iload dX12_chairs_98 rfl ?_
    refine V.aload_n dX12_chairs_100 rfl ?_
    refine V.getr fl_X12_13 dX12_chairs_101 (hs_z.1 0 (12, 0) rfl) (hs_z.2 0 1 1 rfl) (by decide) rfl ?_
    refine V.iconst (v := 1) dX12_chairs_104 (by decide) ?_
    refine V.iald dX12_chairs_105 (hs_z.1 1 (20, 3891) rfl) (vp_lit (by decide)) ?_
    refine V.icmp_ge 132 dX12_chairs_106 (by decide) (fun c19 => ?_) (fun c19 => ?_)
    · rw [if_pos c19] at hf
      obtain rfl := Option.some.inj hf
      exact V.lo [(0, some (.ref z)), (1, some (.int g1)), (2, some (.int g2)), (3, some (.int g3)), (4, some (.int g4)), (5, some (.int g5)), (6, some (.int g6)), (7, some (.int g7)), (8, some (.int l8))] (by simp only [Subs]; repeat' first | exact trivial | constructor | rfl) hk
    · rw [if_neg c19] at hf
      refine V.iload dX12_chairs_109 rfl ?_
      refine V.i2l dX12_chairs_111 ?_
      refine V.iload dX12_chairs_112 rfl ?_
      refine V.ins cs_X12_214 (c_r_isIn) dX12_chairs_114 rfl rfl (Nat.le_of_ble_eq_true rfl) (by decide) (by decide) (Nat.le_refl _) (Nat.le_refl _) (fun _ _ hq => ?_)
      obtain ⟨rfl, rfl⟩ := hq
      refine V.if_eq 126 dX12_chairs_117 (by decide) (fun c20 => ?_) (fun c20 => ?_)
      · rw [if_pos c20] at hf
        refine V.iinc (v := (l8 + 1)) dX12_chairs_126 rfl rfl (by first | exact rfl | exact trivial) ?_
        refine V.goto 98 dX12_chairs_129 (by decide) ?_
        exact V.lo [(0, some (.ref z)), (1, some (.int g1)), (2, some (.int g2)), (3, some (.int g3)), (4, some (.int g4)), (5, some (.int g5)), (6, some (.int g6)), (7, some (.int g7)), (8, some (.int (l8 + 1)))] (by simp only [Subs]; repeat' first | exact trivial | constructor | rfl) (ih _ _ hf hk)
      · rw [if_neg c20] at hf
        refine V.aload_n dX12_chairs_120 rfl ?_
        refine V.iload dX12_chairs_121 rfl ?_
        obtain ⟨I23, hk22, hf⟩ := bnd_some hf
        try dsimp only at hf
        refine V.inv cv_X12_277 (c_r_sitsOwn hs_z hk22) dX12_chairs_123 (hs_z.1 0 (12, 0) rfl) (by decide) rfl rfl rfl (Nat.le_of_ble_eq_true rfl) (by decide) (by decide) (Nat.le_refl _) (Nat.le_refl _) (fun _ _ hq => ?_)
        obtain ⟨rfl, rfl⟩ := hq
        refine V.iinc (v := (l8 + 1)) dX12_chairs_126 rfl rfl (by first | exact rfl | exact trivial) ?_
        refine V.goto 98 dX12_chairs_129 (by decide) ?_
        exact V.lo [(0, some (.ref z)), (1, some (.int g1)), (2, some (.int g2)), (3, some (.int g3)), (4, some (.int g4)), (5, some (.int g5)), (6, some (.int g6)), (7, some (.int g7)), (8, some (.int (l8 + 1)))] (by simp only [Subs]; repeat' first | exact trivial | constructor | rfl) (ih _ _ hf hk)
theorem l_r_chairs_56 {l : Launch} {D : va_G} {E : Nat → ClassId} {B : Nat → Prop} {n F : Nat} {Q : Option Value → HT → Prop} {T : Nat → Option (Nat × Nat)} {J : Nat → Nat → Int64} {P : Nat → Nat → Option Nat} {z : Nat} {g1 : Int32} {g2 : Int32} {g3 : Int32} {g4 : Int32} {g5 : Int32} (hs_z : isMd T P z)  (r : Int32 × Int32 × (Nat → Nat → Int32)) : ∀ (k : Nat) (l6 : Int32) (l7 : Int32) (I : (Nat → Nat → Int32)), r_chairs_56 F J z g1 g2 g3 g4 g5 k l6 l7 I = some r → V l D E B yX12_chairs cX12_chairs 9 (some .int) 7 0 0 Q 0 0 (n, T, r.2.2, J, P) 166 [(0, some (.ref z)), (1, some (.int g1)), (2, some (.int g2)), (3, some (.int g3)), (4, some (.int g4)), (5, some (.int g5)), (6, some (.int (r.1))), (7, some (.int (r.2.1)))] [] → V l D E B yX12_chairs cX12_chairs 9 (some .int) 7 0 0 Q 0 0 (n, T, I, J, P) 56 [(0, some (.ref z)), (1, some (.int g1)), (2, some (.int g2)), (3, some (.int g3)), (4, some (.int g4)), (5, some (.int g5)), (6, some (.int l6)), (7, some (.int l7))] [] := by
  intro k
  induction k with
  | zero =>
    intro l6 l7 I hf hk
    cases hf
  | succ k ih =>
    intro l6 l7 I hf hk
    unfold r_chairs_56 at hf
    refine V.iload dX12_chairs_56 rfl ?_
    refine V.iload dX12_chairs_58 rfl ?_
    refine V.icmp_gt 166 dX12_chairs_60 (by decide) (fun c16 => ?_) (fun c16 => ?_)
    · rw [if_pos c16] at hf
      obtain rfl := Option.some.inj hf
      exact V.lo [(0, some (.ref z)), (1, some (.int g1)), (2, some (.int g2)), (3, some (.int g3)), (4, some (.int g4)), (5, some (.int g5)), (6, some (.int l6)), (7, some (.int l7))] (by simp only [Subs]; repeat' first | exact trivial | constructor | rfl) hk
    · rw [if_neg c16] at hf
      refine V.iload dX12_chairs_63 rfl ?_
      refine V.iload dX12_chairs_65 rfl ?_
      refine V.iconst (v := -1) dX12_chairs_67 (by decide) ?_
      refine V.ixor dX12_chairs_68 ?_
      refine V.iand dX12_chairs_69 ?_
      refine V.if_ne 160 dX12_chairs_70 (by decide) (fun c17 => ?_) (fun c17 => ?_)
      · rw [if_neg c17] at hf
        refine V.iinc (v := (l7 + 1)) dX12_chairs_160 rfl rfl (by first | exact rfl | exact trivial) ?_
        refine V.goto 56 dX12_chairs_163 (by decide) ?_
        exact V.lo [(0, some (.ref z)), (1, some (.int g1)), (2, some (.int g2)), (3, some (.int g3)), (4, some (.int g4)), (5, some (.int g5)), (6, some (.int l6)), (7, some (.int (l7 + 1)))] (by simp only [Subs]; repeat' first | exact trivial | constructor | rfl) (ih _ _ _ hf hk)
      · rw [if_pos c17] at hf
        refine V.iload dX12_chairs_73 rfl ?_
        refine V.iconst (v := -1) dX12_chairs_75 (by decide) ?_
        refine V.icmp_eq 95 dX12_chairs_76 (by decide) (fun c18 => ?_) (fun c18 => ?_)
        · rw [if_pos c18] at hf
          refine V.iconst (v := 0) dX12_chairs_95 (by decide) ?_
          refine V.istore dX12_chairs_96 (by decide) (by first | exact rfl | exact trivial) ?_
          obtain ⟨⟨m26, I27⟩, hk25, hf⟩ := bnd_some hf
          try dsimp only at hf
          refine V.lo [(0, some (.ref z)), (1, some (.int g1)), (2, some (.int g2)), (3, some (.int g3)), (4, some (.int g4)), (5, some (.int g5)), (6, some (.int l6)), (7, some (.int l7)), (8, some (.int 0))] (by simp only [Subs]; repeat' first | exact trivial | constructor | rfl) (l_r_chairs_98 hs_z _ F _ _ hk25 ?_)
          try dsimp only
          refine V.aload_n dX12_chairs_132 rfl ?_
          refine V.iload_n dX12_chairs_133 rfl ?_
          refine V.iconst (v := 0) dX12_chairs_134 (by decide) ?_
          refine V.aload_n dX12_chairs_135 rfl ?_
          refine V.getr fl_X12_73 dX12_chairs_136 (hs_z.1 0 (12, 0) rfl) (hs_z.2 0 34 19 rfl) (by decide) rfl ?_
          refine V.iload_n dX12_chairs_139 rfl ?_
          obtain ⟨hb28, hf⟩ := chk_some hf
          refine V.iald dX12_chairs_140 (hs_z.1 19 (20, 4) rfl) hb28 ?_
          obtain ⟨I31, hk30, hf⟩ := bnd_some hf
          try dsimp only at hf
          refine V.inv cv_X12_354 (c_r_goes hs_z hk30) dX12_chairs_141 (hs_z.1 0 (12, 0) rfl) (by decide) rfl rfl rfl (Nat.le_of_ble_eq_true rfl) (by decide) (by decide) (Nat.le_refl _) (Nat.le_refl _) (fun _ _ hq => ?_)
          obtain ⟨rfl, rfl⟩ := hq
          refine V.aload_n dX12_chairs_144 rfl ?_
          refine V.iload_n dX12_chairs_145 rfl ?_
          obtain ⟨u34, hk33, hf⟩ := bnd_some hf
          try dsimp only at hf
          refine V.inv cv_X12_244 (c_r_placeOf hs_z hk33) dX12_chairs_146 (hs_z.1 0 (12, 0) rfl) (by decide) rfl rfl rfl (Nat.le_of_ble_eq_true rfl) (by decide) (by decide) (Nat.le_refl _) (Nat.le_refl _) (fun _ _ hq => ?_)
          obtain ⟨rfl, rfl⟩ := hq
          refine V.if_ne 156 dX12_chairs_149 (by decide) (fun c35 => ?_) (fun c35 => ?_)
          · rw [if_neg c35] at hf
            refine V.aload_n dX12_chairs_156 rfl ?_
            obtain ⟨I38, hk37, hf⟩ := bnd_some hf
            try dsimp only at hf
            refine V.inv cv_X12_327 (c_r_isAgain hs_z hk37) dX12_chairs_157 (hs_z.1 0 (12, 0) rfl) (by decide) rfl rfl rfl (Nat.le_of_ble_eq_true rfl) (by decide) (by decide) (Nat.le_refl _) (Nat.le_refl _) (fun _ _ hq => ?_)
            obtain ⟨rfl, rfl⟩ := hq
            refine V.iinc (v := (l7 + 1)) dX12_chairs_160 rfl rfl (by first | exact rfl | exact trivial) ?_
            refine V.goto 56 dX12_chairs_163 (by decide) ?_
            exact V.lo [(0, some (.ref z)), (1, some (.int g1)), (2, some (.int g2)), (3, some (.int g3)), (4, some (.int g4)), (5, some (.int g5)), (6, some (.int l6)), (7, some (.int (l7 + 1)))] (by simp only [Subs]; repeat' first | exact trivial | constructor | rfl) (ih _ _ _ hf hk)
          · rw [if_pos c35] at hf
            refine V.iload dX12_chairs_152 rfl ?_
            refine V.istore dX12_chairs_154 (by decide) (by first | exact rfl | exact trivial) ?_
            refine V.aload_n dX12_chairs_156 rfl ?_
            obtain ⟨I41, hk40, hf⟩ := bnd_some hf
            try dsimp only at hf
            refine V.inv cv_X12_327 (c_r_isAgain hs_z hk40) dX12_chairs_157 (hs_z.1 0 (12, 0) rfl) (by decide) rfl rfl rfl (Nat.le_of_ble_eq_true rfl) (by decide) (by decide) (Nat.le_refl _) (Nat.le_refl _) (fun _ _ hq => ?_)
            obtain ⟨rfl, rfl⟩ := hq
            refine V.iinc (v := (l7 + 1)) dX12_chairs_160 rfl rfl (by first | exact rfl | exact trivial) ?_
            refine V.goto 56 dX12_chairs_163 (by decide) ?_
            exact V.lo [(0, some (.ref z)), (1, some (.int g1)), (2, some (.int g2)), (3, some (.int g3)), (4, some (.int g4)), (5, some (.int g5)), (6, some (.int l7)), (7, some (.int (l7 + 1)))] (by simp only [Subs]; repeat' first | exact trivial | constructor | rfl) (ih _ _ _ hf hk)
        · rw [if_neg c18] at hf
          refine V.iload dX12_chairs_79 rfl ?_
          obtain ⟨u44, hk43, hf⟩ := bnd_some hf
          try dsimp only at hf
          refine V.ins cs_X12_230 (c_r_bitsOf hk43) dX12_chairs_81 rfl rfl (Nat.le_of_ble_eq_true rfl) (by decide) (by decide) (Nat.le_refl _) (Nat.le_refl _) (fun _ _ hq => ?_)
          obtain ⟨rfl, rfl⟩ := hq
          refine V.iload dX12_chairs_84 rfl ?_
          obtain ⟨u47, hk46, hf⟩ := bnd_some hf
          try dsimp only at hf
          refine V.ins cs_X12_230 (c_r_bitsOf hk46) dX12_chairs_86 rfl rfl (Nat.le_of_ble_eq_true rfl) (by decide) (by decide) (Nat.le_refl _) (Nat.le_refl _) (fun _ _ hq => ?_)
          obtain ⟨rfl, rfl⟩ := hq
          refine V.icmp_lt 95 dX12_chairs_89 (by decide) (fun c48 => ?_) (fun c48 => ?_)
          · rw [if_pos c48] at hf
            refine V.iconst (v := 0) dX12_chairs_95 (by decide) ?_
            refine V.istore dX12_chairs_96 (by decide) (by first | exact rfl | exact trivial) ?_
            obtain ⟨⟨m51, I52⟩, hk50, hf⟩ := bnd_some hf
            try dsimp only at hf
            refine V.lo [(0, some (.ref z)), (1, some (.int g1)), (2, some (.int g2)), (3, some (.int g3)), (4, some (.int g4)), (5, some (.int g5)), (6, some (.int l6)), (7, some (.int l7)), (8, some (.int 0))] (by simp only [Subs]; repeat' first | exact trivial | constructor | rfl) (l_r_chairs_98 hs_z _ F _ _ hk50 ?_)
            try dsimp only
            refine V.aload_n dX12_chairs_132 rfl ?_
            refine V.iload_n dX12_chairs_133 rfl ?_
            refine V.iconst (v := 0) dX12_chairs_134 (by decide) ?_
            refine V.aload_n dX12_chairs_135 rfl ?_
            refine V.getr fl_X12_73 dX12_chairs_136 (hs_z.1 0 (12, 0) rfl) (hs_z.2 0 34 19 rfl) (by decide) rfl ?_
            refine V.iload_n dX12_chairs_139 rfl ?_
            obtain ⟨hb53, hf⟩ := chk_some hf
            refine V.iald dX12_chairs_140 (hs_z.1 19 (20, 4) rfl) hb53 ?_
            obtain ⟨I56, hk55, hf⟩ := bnd_some hf
            try dsimp only at hf
            refine V.inv cv_X12_354 (c_r_goes hs_z hk55) dX12_chairs_141 (hs_z.1 0 (12, 0) rfl) (by decide) rfl rfl rfl (Nat.le_of_ble_eq_true rfl) (by decide) (by decide) (Nat.le_refl _) (Nat.le_refl _) (fun _ _ hq => ?_)
            obtain ⟨rfl, rfl⟩ := hq
            refine V.aload_n dX12_chairs_144 rfl ?_
            refine V.iload_n dX12_chairs_145 rfl ?_
            obtain ⟨u59, hk58, hf⟩ := bnd_some hf
            try dsimp only at hf
            refine V.inv cv_X12_244 (c_r_placeOf hs_z hk58) dX12_chairs_146 (hs_z.1 0 (12, 0) rfl) (by decide) rfl rfl rfl (Nat.le_of_ble_eq_true rfl) (by decide) (by decide) (Nat.le_refl _) (Nat.le_refl _) (fun _ _ hq => ?_)
            obtain ⟨rfl, rfl⟩ := hq
            refine V.if_ne 156 dX12_chairs_149 (by decide) (fun c60 => ?_) (fun c60 => ?_)
            · rw [if_neg c60] at hf
              refine V.aload_n dX12_chairs_156 rfl ?_
              obtain ⟨I63, hk62, hf⟩ := bnd_some hf
              try dsimp only at hf
              refine V.inv cv_X12_327 (c_r_isAgain hs_z hk62) dX12_chairs_157 (hs_z.1 0 (12, 0) rfl) (by decide) rfl rfl rfl (Nat.le_of_ble_eq_true rfl) (by decide) (by decide) (Nat.le_refl _) (Nat.le_refl _) (fun _ _ hq => ?_)
              obtain ⟨rfl, rfl⟩ := hq
              refine V.iinc (v := (l7 + 1)) dX12_chairs_160 rfl rfl (by first | exact rfl | exact trivial) ?_
              refine V.goto 56 dX12_chairs_163 (by decide) ?_
              exact V.lo [(0, some (.ref z)), (1, some (.int g1)), (2, some (.int g2)), (3, some (.int g3)), (4, some (.int g4)), (5, some (.int g5)), (6, some (.int l6)), (7, some (.int (l7 + 1)))] (by simp only [Subs]; repeat' first | exact trivial | constructor | rfl) (ih _ _ _ hf hk)
            · rw [if_pos c60] at hf
              refine V.iload dX12_chairs_152 rfl ?_
              refine V.istore dX12_chairs_154 (by decide) (by first | exact rfl | exact trivial) ?_
              refine V.aload_n dX12_chairs_156 rfl ?_
              obtain ⟨I66, hk65, hf⟩ := bnd_some hf
              try dsimp only at hf
              refine V.inv cv_X12_327 (c_r_isAgain hs_z hk65) dX12_chairs_157 (hs_z.1 0 (12, 0) rfl) (by decide) rfl rfl rfl (Nat.le_of_ble_eq_true rfl) (by decide) (by decide) (Nat.le_refl _) (Nat.le_refl _) (fun _ _ hq => ?_)
              obtain ⟨rfl, rfl⟩ := hq
              refine V.iinc (v := (l7 + 1)) dX12_chairs_160 rfl rfl (by first | exact rfl | exact trivial) ?_
              refine V.goto 56 dX12_chairs_163 (by decide) ?_
              exact V.lo [(0, some (.ref z)), (1, some (.int g1)), (2, some (.int g2)), (3, some (.int g3)), (4, some (.int g4)), (5, some (.int g5)), (6, some (.int l7)), (7, some (.int (l7 + 1)))] (by simp only [Subs]; repeat' first | exact trivial | constructor | rfl) (ih _ _ _ hf hk)
          · rw [if_neg c48] at hf
            refine V.goto 160 dX12_chairs_92 (by decide) ?_
            refine V.iinc (v := (l7 + 1)) dX12_chairs_160 rfl rfl (by first | exact rfl | exact trivial) ?_
            refine V.goto 56 dX12_chairs_163 (by decide) ?_
            exact V.lo [(0, some (.ref z)), (1, some (.int g1)), (2, some (.int g2)), (3, some (.int g3)), (4, some (.int g4)), (5, some (.int g5)), (6, some (.int l6)), (7, some (.int (l7 + 1)))] (by simp only [Subs]; repeat' first | exact trivial | constructor | rfl) (ih _ _ _ hf hk)
theorem c_r_chairs {l : Launch} {D : va_G} {E : Nat → ClassId} {B : Nat → Prop} {n F : Nat} {T : Nat → Option (Nat × Nat)} {I : Nat → Nat → Int32} {J : Nat → Nat → Int64} {P : Nat → Nat → Option Nat} {z : Nat} {v1 : Int32} {v2 : Int32} {v3 : Int32} {r : Int32 × (Nat → Nat → Int32)} (hs_z : isMd T P z) (hf : r_chairs F I J z v1 v2 v3 = some r) : Ct l D E B yX12_chairs cX12_chairs 9 (some .int) 7 0 0 [.ref z, .int v1, .int v2, .int v3] (n, T, I, J, P) (Ret (some (.int r.1)) (n, T, r.2, J, P)) := by
  unfold r_chairs at hf
  refine Ct.ofV (by decide) (Nat.le_of_ble_eq_true rfl) ?_
  refine V.aload_n dX12_chairs_0 rfl ?_
  refine V.iconst (v := 0) dX12_chairs_1 (by decide) ?_
  refine V.putiE fl_X12_1 dX12_chairs_2 (hs_z.1 0 (12, 0) rfl) (by decide) (fun h => by cases h) rfl rfl rfl (Nat.le_of_ble_eq_true rfl) (fun I1 e2 => ?_)
  rw [← e2] at hf
  try dsimp only at hf
  clear e2
  refine V.iload_n dX12_chairs_5 rfl ?_
  obtain ⟨u5, hk4, hf⟩ := bnd_some hf
  try dsimp only at hf
  refine V.ins cs_X12_408 (c_r_isWhat hk4) dX12_chairs_6 rfl rfl (Nat.le_of_ble_eq_true rfl) (by decide) (by decide) (Nat.le_refl _) (Nat.le_refl _) (fun _ _ hq => ?_)
  obtain ⟨rfl, rfl⟩ := hq
  refine V.if_ne 15 dX12_chairs_9 (by decide) (fun c6 => ?_) (fun c6 => ?_)
  · rw [if_neg c6] at hf
    refine V.aload_n dX12_chairs_15 rfl ?_
    refine V.iload_n dX12_chairs_16 rfl ?_
    refine V.iload_n dX12_chairs_17 rfl ?_
    obtain ⟨u9, hk8, hf⟩ := bnd_some hf
    try dsimp only at hf
    refine V.inv cv_X12_348 (c_r_noStands hs_z hk8) dX12_chairs_18 (hs_z.1 0 (12, 0) rfl) (by decide) rfl rfl rfl (Nat.le_of_ble_eq_true rfl) (by decide) (by decide) (Nat.le_refl _) (Nat.le_refl _) (fun _ _ hq => ?_)
    obtain ⟨rfl, rfl⟩ := hq
    refine V.istore dX12_chairs_21 (by decide) (by first | exact rfl | exact trivial) ?_
    refine V.iload dX12_chairs_23 rfl ?_
    refine V.if_eq 31 dX12_chairs_25 (by decide) (fun c10 => ?_) (fun c10 => ?_)
    · rw [if_pos c10] at hf
      refine V.aload_n dX12_chairs_31 rfl ?_
      obtain ⟨I13, hk12, hf⟩ := bnd_some hf
      try dsimp only at hf
      refine V.inv cv_X12_264 (c_r_keeps hs_z hk12) dX12_chairs_32 (hs_z.1 0 (12, 0) rfl) (by decide) rfl rfl rfl (Nat.le_of_ble_eq_true rfl) (by decide) (by decide) (Nat.le_refl _) (Nat.le_refl _) (fun _ _ hq => ?_)
      obtain ⟨rfl, rfl⟩ := hq
      refine V.aload_n dX12_chairs_35 rfl ?_
      refine V.getr fl_X12_13 dX12_chairs_36 (hs_z.1 0 (12, 0) rfl) (hs_z.2 0 1 1 rfl) (by decide) rfl ?_
      refine V.bipush (v := 32) dX12_chairs_39 (by decide) ?_
      refine V.iald dX12_chairs_41 (hs_z.1 1 (20, 3891) rfl) (vp_lit (by decide)) ?_
      refine V.iconst (v := 1) dX12_chairs_42 (by decide) ?_
      refine V.iload_n dX12_chairs_43 rfl ?_
      refine V.ishl dX12_chairs_44 ?_
      refine V.iconst (v := -1) dX12_chairs_45 (by decide) ?_
      refine V.ixor dX12_chairs_46 ?_
      refine V.iand dX12_chairs_47 ?_
      refine V.istore dX12_chairs_48 (by decide) (by first | exact rfl | exact trivial) ?_
      obtain ⟨x14, e15⟩ : ∃ zz_, zz_ = ((I13 (z + 1) (Int32.toNatClampNeg 32)) &&& ((1 <<< (v2 &&& 31)) ^^^ (-1))) := ⟨_, rfl⟩
      rw [← e15] at hf ⊢
      try dsimp only at hf
      refine V.iconst (v := -1) dX12_chairs_50 (by decide) ?_
      refine V.istore dX12_chairs_51 (by decide) (by first | exact rfl | exact trivial) ?_
      refine V.iconst (v := 0) dX12_chairs_53 (by decide) ?_
      refine V.istore dX12_chairs_54 (by decide) (by first | exact rfl | exact trivial) ?_
      obtain ⟨⟨m69, m70, I71⟩, hk68, hf⟩ := bnd_some hf
      try dsimp only at hf
      refine V.lo [(0, some (.ref z)), (1, some (.int v1)), (2, some (.int v2)), (3, some (.int v3)), (4, some (.int u9)), (5, some (.int x14)), (6, some (.int (-1))), (7, some (.int 0))] (by simp only [Subs]; repeat' first | exact trivial | constructor | rfl) (l_r_chairs_56 hs_z _ F _ _ _ hk68 ?_)
      try dsimp only
      refine V.iload dX12_chairs_166 rfl ?_
      refine V.iconst (v := -1) dX12_chairs_168 (by decide) ?_
      refine V.icmp_eq 177 dX12_chairs_169 (by decide) (fun c72 => ?_) (fun c72 => ?_)
      · rw [if_pos c72] at hf
        refine V.iload dX12_chairs_177 rfl ?_
        refine V.goto 187 dX12_chairs_179 (by decide) ?_
        obtain rfl := Option.some.inj hf
        exact V.iret dX12_chairs_187 rfl (Nat.le_refl _) (Nat.le_refl _) ⟨rfl, rfl⟩
      · rw [if_neg c72] at hf
        refine V.iload_n dX12_chairs_172 rfl ?_
        refine V.iconst (v := 1) dX12_chairs_173 (by decide) ?_
        refine V.icmp_ne 182 dX12_chairs_174 (by decide) (fun c73 => ?_) (fun c73 => ?_)
        · rw [if_neg c73] at hf
          refine V.iload dX12_chairs_182 rfl ?_
          obtain ⟨u76, hk75, hf⟩ := bnd_some hf
          try dsimp only at hf
          refine V.ins cs_X12_230 (c_r_bitsOf hk75) dX12_chairs_184 rfl rfl (Nat.le_of_ble_eq_true rfl) (by decide) (by decide) (Nat.le_refl _) (Nat.le_refl _) (fun _ _ hq => ?_)
          obtain ⟨rfl, rfl⟩ := hq
          obtain rfl := Option.some.inj hf
          exact V.iret dX12_chairs_187 rfl (Nat.le_refl _) (Nat.le_refl _) ⟨rfl, rfl⟩
        · rw [if_pos c73] at hf
          refine V.iload dX12_chairs_177 rfl ?_
          refine V.goto 187 dX12_chairs_179 (by decide) ?_
          obtain rfl := Option.some.inj hf
          exact V.iret dX12_chairs_187 rfl (Nat.le_refl _) (Nat.le_refl _) ⟨rfl, rfl⟩
    · rw [if_neg c10] at hf
      refine V.iload dX12_chairs_28 rfl ?_
      obtain rfl := Option.some.inj hf
      exact V.iret dX12_chairs_30 rfl (Nat.le_refl _) (Nat.le_refl _) ⟨rfl, rfl⟩
  · rw [if_pos c6] at hf
    refine V.bipush (v := -2) dX12_chairs_12 (by decide) ?_
    obtain rfl := Option.some.inj hf
    exact V.iret dX12_chairs_14 rfl (Nat.le_refl _) (Nat.le_refl _) ⟨rfl, rfl⟩
theorem dX12_noRooms_0 : decode cX12_noRooms 0 = .ok (.aload_n 0, 1) := by decide +kernel
theorem dX12_noRooms_1 : decode cX12_noRooms 1 = .ok (.iload_n 1, 1) := by decide +kernel
theorem dX12_noRooms_2 : decode cX12_noRooms 2 = .ok (.iload_n 2, 1) := by decide +kernel
theorem dX12_noRooms_3 : decode cX12_noRooms 3 = .ok (.invokevirtual 345, 3) := by decide +kernel
theorem dX12_noRooms_6 : decode cX12_noRooms 6 = .ok (.istore 4, 2) := by decide +kernel
theorem dX12_noRooms_8 : decode cX12_noRooms 8 = .ok (.iload 4, 2) := by decide +kernel
theorem dX12_noRooms_10 : decode cX12_noRooms 10 = .ok (.ifCond .eq 6, 3) := by decide +kernel
theorem dX12_noRooms_13 : decode cX12_noRooms 13 = .ok (.iload 4, 2) := by decide +kernel
theorem dX12_noRooms_15 : decode cX12_noRooms 15 = .ok (.ireturn, 1) := by decide +kernel
theorem dX12_noRooms_16 : decode cX12_noRooms 16 = .ok (.iload_n 3, 1) := by decide +kernel
theorem dX12_noRooms_17 : decode cX12_noRooms 17 = .ok (.i2l, 1) := by decide +kernel
theorem dX12_noRooms_18 : decode cX12_noRooms 18 = .ok (.lconst 0, 1) := by decide +kernel
theorem dX12_noRooms_19 : decode cX12_noRooms 19 = .ok (.aload_n 0, 1) := by decide +kernel
theorem dX12_noRooms_20 : decode cX12_noRooms 20 = .ok (.getfield 73, 3) := by decide +kernel
theorem dX12_noRooms_23 : decode cX12_noRooms 23 = .ok (.iload_n 1, 1) := by decide +kernel
theorem dX12_noRooms_24 : decode cX12_noRooms 24 = .ok (.iaload, 1) := by decide +kernel
theorem dX12_noRooms_25 : decode cX12_noRooms 25 = .ok (.i2l, 1) := by decide +kernel
theorem dX12_noRooms_26 : decode cX12_noRooms 26 = .ok (.invokestatic 145, 3) := by decide +kernel
theorem dX12_noRooms_29 : decode cX12_noRooms 29 = .ok (.ifCond .ne 8, 3) := by decide +kernel
theorem dX12_noRooms_32 : decode cX12_noRooms 32 = .ok (.bipush (-3), 2) := by decide +kernel
theorem dX12_noRooms_34 : decode cX12_noRooms 34 = .ok (.goto 17, 3) := by decide +kernel
theorem dX12_noRooms_37 : decode cX12_noRooms 37 = .ok (.aload_n 0, 1) := by decide +kernel
theorem dX12_noRooms_38 : decode cX12_noRooms 38 = .ok (.iload_n 2, 1) := by decide +kernel
theorem dX12_noRooms_39 : decode cX12_noRooms 39 = .ok (.invokevirtual 218, 3) := by decide +kernel
theorem dX12_noRooms_42 : decode cX12_noRooms 42 = .ok (.ifCond .eq 7, 3) := by decide +kernel
theorem dX12_noRooms_45 : decode cX12_noRooms 45 = .ok (.iconst 0, 1) := by decide +kernel
theorem dX12_noRooms_46 : decode cX12_noRooms 46 = .ok (.goto 5, 3) := by decide +kernel
theorem dX12_noRooms_49 : decode cX12_noRooms 49 = .ok (.bipush (-5), 2) := by decide +kernel
theorem dX12_noRooms_51 : decode cX12_noRooms 51 = .ok (.ireturn, 1) := by decide +kernel
def r_noRooms (F : Nat) (I : Nat → Nat → Int32) (J : Nat → Nat → Int64) (z : Nat) (v1 : Int32) (v2 : Int32) (v3 : Int32) : Option (Int32) := (r_noNightOf F I J z v1 v2).bind (fun q1 => let u3 := q1; if u3 = 0 then (chk v1 4 (if (r_within (Int32.toInt64 v3) 0 (Int32.toInt64 (I (z + 19) (Int32.toNatClampNeg v1)))) = 0 then (some (-3)) else ((r_isUp I z v2).bind (fun q7 => let u9 := q7; if u9 = 0 then (some (-5)) else (some 0))))) else (some u3))
theorem c_r_noRooms {l : Launch} {D : va_G} {E : Nat → ClassId} {B : Nat → Prop} {n F : Nat} {T : Nat → Option (Nat × Nat)} {I : Nat → Nat → Int32} {J : Nat → Nat → Int64} {P : Nat → Nat → Option Nat} {z : Nat} {v1 : Int32} {v2 : Int32} {v3 : Int32} {r : Int32} (hs_z : isMd T P z) (hf : r_noRooms F I J z v1 v2 v3 = some r) : Ct l D E B yX12_noRooms cX12_noRooms 5 (some .int) 4 0 0 [.ref z, .int v1, .int v2, .int v3] (n, T, I, J, P) (Ret (some (.int r)) (n, T, I, J, P)) := by
  unfold r_noRooms at hf
  refine Ct.ofV (by decide) (Nat.le_of_ble_eq_true rfl) ?_
  refine V.aload_n dX12_noRooms_0 rfl ?_
  refine V.iload_n dX12_noRooms_1 rfl ?_
  refine V.iload_n dX12_noRooms_2 rfl ?_
  obtain ⟨u3, hk2, hf⟩ := bnd_some hf
  try dsimp only at hf
  refine V.inv cv_X12_345 (c_r_noNightOf hs_z hk2) dX12_noRooms_3 (hs_z.1 0 (12, 0) rfl) (by decide) rfl rfl rfl (Nat.le_of_ble_eq_true rfl) (by decide) (by decide) (Nat.le_refl _) (Nat.le_refl _) (fun _ _ hq => ?_)
  obtain ⟨rfl, rfl⟩ := hq
  refine V.istore dX12_noRooms_6 (by decide) (by first | exact rfl | exact trivial) ?_
  refine V.iload dX12_noRooms_8 rfl ?_
  refine V.if_eq 16 dX12_noRooms_10 (by decide) (fun c4 => ?_) (fun c4 => ?_)
  · rw [if_pos c4] at hf
    refine V.iload_n dX12_noRooms_16 rfl ?_
    refine V.i2l dX12_noRooms_17 ?_
    refine V.lconst (v := 0) dX12_noRooms_18 (by decide) ?_
    refine V.aload_n dX12_noRooms_19 rfl ?_
    refine V.getr fl_X12_73 dX12_noRooms_20 (hs_z.1 0 (12, 0) rfl) (hs_z.2 0 34 19 rfl) (by decide) rfl ?_
    refine V.iload_n dX12_noRooms_23 rfl ?_
    obtain ⟨hb5, hf⟩ := chk_some hf
    refine V.iald dX12_noRooms_24 (hs_z.1 19 (20, 4) rfl) hb5 ?_
    refine V.i2l dX12_noRooms_25 ?_
    refine V.ins cs_X12_145 (c_r_within) dX12_noRooms_26 rfl rfl (Nat.le_of_ble_eq_true rfl) (by decide) (by decide) (Nat.le_refl _) (Nat.le_refl _) (fun _ _ hq => ?_)
    obtain ⟨rfl, rfl⟩ := hq
    refine V.if_ne 37 dX12_noRooms_29 (by decide) (fun c6 => ?_) (fun c6 => ?_)
    · rw [if_neg c6] at hf
      refine V.aload_n dX12_noRooms_37 rfl ?_
      refine V.iload_n dX12_noRooms_38 rfl ?_
      obtain ⟨u9, hk8, hf⟩ := bnd_some hf
      try dsimp only at hf
      refine V.inv cv_X12_218 (c_r_isUp hs_z hk8) dX12_noRooms_39 (hs_z.1 0 (12, 0) rfl) (by decide) rfl rfl rfl (Nat.le_of_ble_eq_true rfl) (by decide) (by decide) (Nat.le_refl _) (Nat.le_refl _) (fun _ _ hq => ?_)
      obtain ⟨rfl, rfl⟩ := hq
      refine V.if_eq 49 dX12_noRooms_42 (by decide) (fun c10 => ?_) (fun c10 => ?_)
      · rw [if_pos c10] at hf
        refine V.bipush (v := -5) dX12_noRooms_49 (by decide) ?_
        obtain rfl := Option.some.inj hf
        exact V.iret dX12_noRooms_51 rfl (Nat.le_refl _) (Nat.le_refl _) ⟨rfl, rfl⟩
      · rw [if_neg c10] at hf
        refine V.iconst (v := 0) dX12_noRooms_45 (by decide) ?_
        refine V.goto 51 dX12_noRooms_46 (by decide) ?_
        obtain rfl := Option.some.inj hf
        exact V.iret dX12_noRooms_51 rfl (Nat.le_refl _) (Nat.le_refl _) ⟨rfl, rfl⟩
    · rw [if_pos c6] at hf
      refine V.bipush (v := -3) dX12_noRooms_32 (by decide) ?_
      refine V.goto 51 dX12_noRooms_34 (by decide) ?_
      obtain rfl := Option.some.inj hf
      exact V.iret dX12_noRooms_51 rfl (Nat.le_refl _) (Nat.le_refl _) ⟨rfl, rfl⟩
  · rw [if_neg c4] at hf
    refine V.iload dX12_noRooms_13 rfl ?_
    obtain rfl := Option.some.inj hf
    exact V.iret dX12_noRooms_15 rfl (Nat.le_refl _) (Nat.le_refl _) ⟨rfl, rfl⟩
theorem dX12_laysRooms_0 : decode cX12_laysRooms 0 = .ok (.aload_n 0, 1) := by decide +kernel
theorem dX12_laysRooms_1 : decode cX12_laysRooms 1 = .ok (.invokevirtual 264, 3) := by decide +kernel
theorem dX12_laysRooms_4 : decode cX12_laysRooms 4 = .ok (.iconst 0, 1) := by decide +kernel
theorem dX12_laysRooms_5 : decode cX12_laysRooms 5 = .ok (.istore 4, 2) := by decide +kernel
theorem dX12_laysRooms_7 : decode cX12_laysRooms 7 = .ok (.iconst 0, 1) := by decide +kernel
theorem dX12_laysRooms_8 : decode cX12_laysRooms 8 = .ok (.istore 5, 2) := by decide +kernel
theorem dX12_laysRooms_10 : decode cX12_laysRooms 10 = .ok (.iload 5, 2) := by decide +kernel
theorem dX12_laysRooms_12 : decode cX12_laysRooms 12 = .ok (.bipush 99, 2) := by decide +kernel
theorem dX12_laysRooms_14 : decode cX12_laysRooms 14 = .ok (.if_icmp .gt 95, 3) := by decide +kernel
theorem dX12_laysRooms_17 : decode cX12_laysRooms 17 = .ok (.aload_n 0, 1) := by decide +kernel
theorem dX12_laysRooms_18 : decode cX12_laysRooms 18 = .ok (.getfield 13, 3) := by decide +kernel
theorem dX12_laysRooms_21 : decode cX12_laysRooms 21 = .ok (.bipush 41, 2) := by decide +kernel
theorem dX12_laysRooms_23 : decode cX12_laysRooms 23 = .ok (.iload_n 2, 1) := by decide +kernel
theorem dX12_laysRooms_24 : decode cX12_laysRooms 24 = .ok (.iadd, 1) := by decide +kernel
theorem dX12_laysRooms_25 : decode cX12_laysRooms 25 = .ok (.iload 5, 2) := by decide +kernel
theorem dX12_laysRooms_27 : decode cX12_laysRooms 27 = .ok (.iastore, 1) := by decide +kernel
theorem dX12_laysRooms_28 : decode cX12_laysRooms 28 = .ok (.aload_n 0, 1) := by decide +kernel
theorem dX12_laysRooms_29 : decode cX12_laysRooms 29 = .ok (.iload_n 1, 1) := by decide +kernel
theorem dX12_laysRooms_30 : decode cX12_laysRooms 30 = .ok (.iload_n 2, 1) := by decide +kernel
theorem dX12_laysRooms_31 : decode cX12_laysRooms 31 = .ok (.invokevirtual 351, 3) := by decide +kernel
theorem dX12_laysRooms_34 : decode cX12_laysRooms 34 = .ok (.istore 6, 2) := by decide +kernel
theorem dX12_laysRooms_36 : decode cX12_laysRooms 36 = .ok (.aload_n 0, 1) := by decide +kernel
theorem dX12_laysRooms_37 : decode cX12_laysRooms 37 = .ok (.getfield 57, 3) := by decide +kernel
theorem dX12_laysRooms_40 : decode cX12_laysRooms 40 = .ok (.iload 5, 2) := by decide +kernel
theorem dX12_laysRooms_42 : decode cX12_laysRooms 42 = .ok (.iload_n 3, 1) := by decide +kernel
theorem dX12_laysRooms_43 : decode cX12_laysRooms 43 = .ok (.ifCond .ne 22, 3) := by decide +kernel
theorem dX12_laysRooms_46 : decode cX12_laysRooms 46 = .ok (.iload 6, 2) := by decide +kernel
theorem dX12_laysRooms_48 : decode cX12_laysRooms 48 = .ok (.aload_n 0, 1) := by decide +kernel
theorem dX12_laysRooms_49 : decode cX12_laysRooms 49 = .ok (.getfield 73, 3) := by decide +kernel
theorem dX12_laysRooms_52 : decode cX12_laysRooms 52 = .ok (.iload_n 1, 1) := by decide +kernel
theorem dX12_laysRooms_53 : decode cX12_laysRooms 53 = .ok (.iaload, 1) := by decide +kernel
theorem dX12_laysRooms_54 : decode cX12_laysRooms 54 = .ok (.if_icmp .ne 7, 3) := by decide +kernel
theorem dX12_laysRooms_57 : decode cX12_laysRooms 57 = .ok (.iconst 1, 1) := by decide +kernel
theorem dX12_laysRooms_58 : decode cX12_laysRooms 58 = .ok (.goto 20, 3) := by decide +kernel
theorem dX12_laysRooms_61 : decode cX12_laysRooms 61 = .ok (.iconst 0, 1) := by decide +kernel
theorem dX12_laysRooms_62 : decode cX12_laysRooms 62 = .ok (.goto 16, 3) := by decide +kernel
theorem dX12_laysRooms_65 : decode cX12_laysRooms 65 = .ok (.iload 6, 2) := by decide +kernel
theorem dX12_laysRooms_67 : decode cX12_laysRooms 67 = .ok (.iload_n 3, 1) := by decide +kernel
theorem dX12_laysRooms_68 : decode cX12_laysRooms 68 = .ok (.iconst 1, 1) := by decide +kernel
theorem dX12_laysRooms_69 : decode cX12_laysRooms 69 = .ok (.isub, 1) := by decide +kernel
theorem dX12_laysRooms_70 : decode cX12_laysRooms 70 = .ok (.if_icmp .ne 7, 3) := by decide +kernel
theorem dX12_laysRooms_73 : decode cX12_laysRooms 73 = .ok (.iconst 1, 1) := by decide +kernel
theorem dX12_laysRooms_74 : decode cX12_laysRooms 74 = .ok (.goto 4, 3) := by decide +kernel
theorem dX12_laysRooms_77 : decode cX12_laysRooms 77 = .ok (.iconst 0, 1) := by decide +kernel
theorem dX12_laysRooms_78 : decode cX12_laysRooms 78 = .ok (.bastore, 1) := by decide +kernel
theorem dX12_laysRooms_79 : decode cX12_laysRooms 79 = .ok (.iload 4, 2) := by decide +kernel
theorem dX12_laysRooms_81 : decode cX12_laysRooms 81 = .ok (.aload_n 0, 1) := by decide +kernel
theorem dX12_laysRooms_82 : decode cX12_laysRooms 82 = .ok (.getfield 57, 3) := by decide +kernel
theorem dX12_laysRooms_85 : decode cX12_laysRooms 85 = .ok (.iload 5, 2) := by decide +kernel
theorem dX12_laysRooms_87 : decode cX12_laysRooms 87 = .ok (.baload, 1) := by decide +kernel
theorem dX12_laysRooms_88 : decode cX12_laysRooms 88 = .ok (.ifCond .eq 7, 3) := by decide +kernel
theorem dX12_laysRooms_91 : decode cX12_laysRooms 91 = .ok (.iconst 1, 1) := by decide +kernel
theorem dX12_laysRooms_92 : decode cX12_laysRooms 92 = .ok (.goto 4, 3) := by decide +kernel
theorem dX12_laysRooms_95 : decode cX12_laysRooms 95 = .ok (.iconst 0, 1) := by decide +kernel
theorem dX12_laysRooms_96 : decode cX12_laysRooms 96 = .ok (.iadd, 1) := by decide +kernel
theorem dX12_laysRooms_97 : decode cX12_laysRooms 97 = .ok (.istore 4, 2) := by decide +kernel
theorem dX12_laysRooms_99 : decode cX12_laysRooms 99 = .ok (.aload_n 0, 1) := by decide +kernel
theorem dX12_laysRooms_100 : decode cX12_laysRooms 100 = .ok (.invokevirtual 327, 3) := by decide +kernel
theorem dX12_laysRooms_103 : decode cX12_laysRooms 103 = .ok (.iinc 5 1, 3) := by decide +kernel
theorem dX12_laysRooms_106 : decode cX12_laysRooms 106 = .ok (.goto (-96), 3) := by decide +kernel
theorem dX12_laysRooms_109 : decode cX12_laysRooms 109 = .ok (.iload 4, 2) := by decide +kernel
theorem dX12_laysRooms_111 : decode cX12_laysRooms 111 = .ok (.ireturn, 1) := by decide +kernel
def r_laysRooms_10 (F : Nat) (J : Nat → Nat → Int64) (z : Nat) (g1 : Int32) (g2 : Int32) (g3 : Int32) : Nat → Int32 → Int32 → (Nat → Nat → Int32) → Option (Int32 × Int32 × (Nat → Nat → Int32))
  | 0, _, _, _ => none
  | k + 1, l4, l5, I => if 99 < l5 then (some (l4, l5, I)) else (chk (41 + g2) 3891 (let I6 := uI I (z + 1) (Int32.toNatClampNeg (41 + g2)) l5; (r_standsIn F I6 J z g1 g2).bind (fun q8 => let u10 := q8.1; let I11 := q8.2; if g3 = 0 then (chk g1 4 (if u10 = (I11 (z + 19) (Int32.toNatClampNeg g1)) then (chk l5 100 (let I59 := uI I11 (z + 14) (Int32.toNatClampNeg l5) (vp_nar .boolean 1); if (I59 (z + 14) (Int32.toNatClampNeg l5)) = 0 then (let x62 := (l4 + 0); (r_isAgain F I59 z).bind (fun q64 => let I66 := q64; r_laysRooms_10 F J z g1 g2 g3 k x62 (l5 + 1) I66)) else (let x67 := (l4 + 1); (r_isAgain F I59 z).bind (fun q69 => let I71 := q69; r_laysRooms_10 F J z g1 g2 g3 k x67 (l5 + 1) I71)))) else (chk l5 100 (let I45 := uI I11 (z + 14) (Int32.toNatClampNeg l5) (vp_nar .boolean 0); if (I45 (z + 14) (Int32.toNatClampNeg l5)) = 0 then (let x48 := (l4 + 0); (r_isAgain F I45 z).bind (fun q50 => let I52 := q50; r_laysRooms_10 F J z g1 g2 g3 k x48 (l5 + 1) I52)) else (let x53 := (l4 + 1); (r_isAgain F I45 z).bind (fun q55 => let I57 := q55; r_laysRooms_10 F J z g1 g2 g3 k x53 (l5 + 1) I57)))))) else (if u10 = (g3 - 1) then (chk l5 100 (let I29 := uI I11 (z + 14) (Int32.toNatClampNeg l5) (vp_nar .boolean 1); if (I29 (z + 14) (Int32.toNatClampNeg l5)) = 0 then (let x32 := (l4 + 0); (r_isAgain F I29 z).bind (fun q34 => let I36 := q34; r_laysRooms_10 F J z g1 g2 g3 k x32 (l5 + 1) I36)) else (let x37 := (l4 + 1); (r_isAgain F I29 z).bind (fun q39 => let I41 := q39; r_laysRooms_10 F J z g1 g2 g3 k x37 (l5 + 1) I41)))) else (chk l5 100 (let I15 := uI I11 (z + 14) (Int32.toNatClampNeg l5) (vp_nar .boolean 0); if (I15 (z + 14) (Int32.toNatClampNeg l5)) = 0 then (let x18 := (l4 + 0); (r_isAgain F I15 z).bind (fun q20 => let I22 := q20; r_laysRooms_10 F J z g1 g2 g3 k x18 (l5 + 1) I22)) else (let x23 := (l4 + 1); (r_isAgain F I15 z).bind (fun q25 => let I27 := q25; r_laysRooms_10 F J z g1 g2 g3 k x23 (l5 + 1) I27))))))))
def r_laysRooms (F : Nat) (I : Nat → Nat → Int32) (J : Nat → Nat → Int64) (z : Nat) (v1 : Int32) (v2 : Int32) (v3 : Int32) : Option (Int32 × (Nat → Nat → Int32)) := (r_keeps F I z).bind (fun q1 => let I3 := q1; (r_laysRooms_10 F J z v1 v2 v3 F 0 0 I3).bind (fun q72 => let m74 := q72.1; let m75 := q72.2.1; let I76 := q72.2.2; some (m74, I76)))
theorem l_r_laysRooms_10 {l : Launch} {D : va_G} {E : Nat → ClassId} {B : Nat → Prop} {n F : Nat} {Q : Option Value → HT → Prop} {T : Nat → Option (Nat × Nat)} {J : Nat → Nat → Int64} {P : Nat → Nat → Option Nat} {z : Nat} {g1 : Int32} {g2 : Int32} {g3 : Int32} (hs_z : isMd T P z)  (r : Int32 × Int32 × (Nat → Nat → Int32)) : ∀ (k : Nat) (l4 : Int32) (l5 : Int32) (I : (Nat → Nat → Int32)), r_laysRooms_10 F J z g1 g2 g3 k l4 l5 I = some r → V l D E B yX12_laysRooms cX12_laysRooms 7 (some .int) 7 0 0 Q 0 0 (n, T, r.2.2, J, P) 109 [(0, some (.ref z)), (1, some (.int g1)), (2, some (.int g2)), (3, some (.int g3)), (4, some (.int (r.1))), (5, some (.int (r.2.1)))] [] → V l D E B yX12_laysRooms cX12_laysRooms 7 (some .int) 7 0 0 Q 0 0 (n, T, I, J, P) 10 [(0, some (.ref z)), (1, some (.int g1)), (2, some (.int g2)), (3, some (.int g3)), (4, some (.int l4)), (5, some (.int l5))] [] := by
  intro k
  induction k with
  | zero =>
    intro l4 l5 I hf hk
    cases hf
  | succ k ih =>
    intro l4 l5 I hf hk
    unfold r_laysRooms_10 at hf
    refine V.iload dX12_laysRooms_10 rfl ?_
    refine V.bipush (v := 99) dX12_laysRooms_12 (by decide) ?_
    refine V.icmp_gt 109 dX12_laysRooms_14 (by decide) (fun c4 => ?_) (fun c4 => ?_)
    · rw [if_pos c4] at hf
      obtain rfl := Option.some.inj hf
      exact V.lo [(0, some (.ref z)), (1, some (.int g1)), (2, some (.int g2)), (3, some (.int g3)), (4, some (.int l4)), (5, some (.int l5))] (by simp only [Subs]; repeat' first | exact trivial | constructor | rfl) hk
    · rw [if_neg c4] at hf
      refine V.aload_n dX12_laysRooms_17 rfl ?_
      refine V.getr fl_X12_13 dX12_laysRooms_18 (hs_z.1 0 (12, 0) rfl) (hs_z.2 0 1 1 rfl) (by decide) rfl ?_
      refine V.bipush (v := 41) dX12_laysRooms_21 (by decide) ?_
      refine V.iload_n dX12_laysRooms_23 rfl ?_
      refine V.iadd dX12_laysRooms_24 ?_
      refine V.iload dX12_laysRooms_25 rfl ?_
      obtain ⟨hb5, hf⟩ := chk_some hf
      refine V.iastE dX12_laysRooms_27 (hs_z.1 1 (20, 3891) rfl) hb5 (fun I6 e7 => ?_)
      rw [← e7] at hf
      try dsimp only at hf
      clear e7
      refine V.aload_n dX12_laysRooms_28 rfl ?_
      refine V.iload_n dX12_laysRooms_29 rfl ?_
      refine V.iload_n dX12_laysRooms_30 rfl ?_
      obtain ⟨⟨u10, I11⟩, hk9, hf⟩ := bnd_some hf
      try dsimp only at hf
      refine V.inv cv_X12_351 (c_r_standsIn hs_z hk9) dX12_laysRooms_31 (hs_z.1 0 (12, 0) rfl) (by decide) rfl rfl rfl (Nat.le_of_ble_eq_true rfl) (by decide) (by decide) (Nat.le_refl _) (Nat.le_refl _) (fun _ _ hq => ?_)
      obtain ⟨rfl, rfl⟩ := hq
      try dsimp only
      refine V.istore dX12_laysRooms_34 (by decide) (by first | exact rfl | exact trivial) ?_
      refine V.aload_n dX12_laysRooms_36 rfl ?_
      refine V.getr fl_X12_57 dX12_laysRooms_37 (hs_z.1 0 (12, 0) rfl) (hs_z.2 0 29 14 rfl) (by decide) rfl ?_
      refine V.iload dX12_laysRooms_40 rfl ?_
      refine V.iload_n dX12_laysRooms_42 rfl ?_
      refine V.if_ne 65 dX12_laysRooms_43 (by decide) (fun c12 => ?_) (fun c12 => ?_)
      · rw [if_neg c12] at hf
        refine V.iload dX12_laysRooms_65 rfl ?_
        refine V.iload_n dX12_laysRooms_67 rfl ?_
        refine V.iconst (v := 1) dX12_laysRooms_68 (by decide) ?_
        refine V.isub dX12_laysRooms_69 ?_
        refine V.icmp_ne 77 dX12_laysRooms_70 (by decide) (fun c13 => ?_) (fun c13 => ?_)
        · rw [if_neg c13] at hf
          refine V.iconst (v := 0) dX12_laysRooms_77 (by decide) ?_
          obtain ⟨hb14, hf⟩ := chk_some hf
          refine V.zastE dX12_laysRooms_78 (hs_z.1 14 (23, 100) rfl) hb14 (fun I15 e16 => ?_)
          rw [← e16] at hf
          try dsimp only at hf
          clear e16
          refine V.iload dX12_laysRooms_79 rfl ?_
          refine V.aload_n dX12_laysRooms_81 rfl ?_
          refine V.getr fl_X12_57 dX12_laysRooms_82 (hs_z.1 0 (12, 0) rfl) (hs_z.2 0 29 14 rfl) (by decide) rfl ?_
          refine V.iload dX12_laysRooms_85 rfl ?_
          refine V.zald dX12_laysRooms_87 (hs_z.1 14 (23, 100) rfl) hb14 ?_
          refine V.if_eq 95 dX12_laysRooms_88 (by decide) (fun c17 => ?_) (fun c17 => ?_)
          · rw [if_pos c17] at hf
            refine V.iconst (v := 0) dX12_laysRooms_95 (by decide) ?_
            refine V.iadd dX12_laysRooms_96 ?_
            refine V.istore dX12_laysRooms_97 (by decide) (by first | exact rfl | exact trivial) ?_
            obtain ⟨x18, e19⟩ : ∃ zz_, zz_ = (l4 + 0) := ⟨_, rfl⟩
            rw [← e19] at hf ⊢
            try dsimp only at hf
            refine V.aload_n dX12_laysRooms_99 rfl ?_
            obtain ⟨I22, hk21, hf⟩ := bnd_some hf
            try dsimp only at hf
            refine V.inv cv_X12_327 (c_r_isAgain hs_z hk21) dX12_laysRooms_100 (hs_z.1 0 (12, 0) rfl) (by decide) rfl rfl rfl (Nat.le_of_ble_eq_true rfl) (by decide) (by decide) (Nat.le_refl _) (Nat.le_refl _) (fun _ _ hq => ?_)
            obtain ⟨rfl, rfl⟩ := hq
            refine V.iinc (v := (l5 + 1)) dX12_laysRooms_103 rfl rfl (by first | exact rfl | exact trivial) ?_
            refine V.goto 10 dX12_laysRooms_106 (by decide) ?_
            exact V.lo [(0, some (.ref z)), (1, some (.int g1)), (2, some (.int g2)), (3, some (.int g3)), (4, some (.int x18)), (5, some (.int (l5 + 1)))] (by simp only [Subs]; repeat' first | exact trivial | constructor | rfl) (ih _ _ _ hf hk)
          · rw [if_neg c17] at hf
            refine V.iconst (v := 1) dX12_laysRooms_91 (by decide) ?_
            refine V.goto 96 dX12_laysRooms_92 (by decide) ?_
            refine V.iadd dX12_laysRooms_96 ?_
            refine V.istore dX12_laysRooms_97 (by decide) (by first | exact rfl | exact trivial) ?_
            obtain ⟨x23, e24⟩ : ∃ zz_, zz_ = (l4 + 1) := ⟨_, rfl⟩
            rw [← e24] at hf ⊢
            try dsimp only at hf
            refine V.aload_n dX12_laysRooms_99 rfl ?_
            obtain ⟨I27, hk26, hf⟩ := bnd_some hf
            try dsimp only at hf
            refine V.inv cv_X12_327 (c_r_isAgain hs_z hk26) dX12_laysRooms_100 (hs_z.1 0 (12, 0) rfl) (by decide) rfl rfl rfl (Nat.le_of_ble_eq_true rfl) (by decide) (by decide) (Nat.le_refl _) (Nat.le_refl _) (fun _ _ hq => ?_)
            obtain ⟨rfl, rfl⟩ := hq
            refine V.iinc (v := (l5 + 1)) dX12_laysRooms_103 rfl rfl (by first | exact rfl | exact trivial) ?_
            refine V.goto 10 dX12_laysRooms_106 (by decide) ?_
            exact V.lo [(0, some (.ref z)), (1, some (.int g1)), (2, some (.int g2)), (3, some (.int g3)), (4, some (.int x23)), (5, some (.int (l5 + 1)))] (by simp only [Subs]; repeat' first | exact trivial | constructor | rfl) (ih _ _ _ hf hk)
        · rw [if_pos c13] at hf
          refine V.iconst (v := 1) dX12_laysRooms_73 (by decide) ?_
          refine V.goto 78 dX12_laysRooms_74 (by decide) ?_
          obtain ⟨hb28, hf⟩ := chk_some hf
          refine V.zastE dX12_laysRooms_78 (hs_z.1 14 (23, 100) rfl) hb28 (fun I29 e30 => ?_)
          rw [← e30] at hf
          try dsimp only at hf
          clear e30
          refine V.iload dX12_laysRooms_79 rfl ?_
          refine V.aload_n dX12_laysRooms_81 rfl ?_
          refine V.getr fl_X12_57 dX12_laysRooms_82 (hs_z.1 0 (12, 0) rfl) (hs_z.2 0 29 14 rfl) (by decide) rfl ?_
          refine V.iload dX12_laysRooms_85 rfl ?_
          refine V.zald dX12_laysRooms_87 (hs_z.1 14 (23, 100) rfl) hb28 ?_
          refine V.if_eq 95 dX12_laysRooms_88 (by decide) (fun c31 => ?_) (fun c31 => ?_)
          · rw [if_pos c31] at hf
            refine V.iconst (v := 0) dX12_laysRooms_95 (by decide) ?_
            refine V.iadd dX12_laysRooms_96 ?_
            refine V.istore dX12_laysRooms_97 (by decide) (by first | exact rfl | exact trivial) ?_
            obtain ⟨x32, e33⟩ : ∃ zz_, zz_ = (l4 + 0) := ⟨_, rfl⟩
            rw [← e33] at hf ⊢
            try dsimp only at hf
            refine V.aload_n dX12_laysRooms_99 rfl ?_
            obtain ⟨I36, hk35, hf⟩ := bnd_some hf
            try dsimp only at hf
            refine V.inv cv_X12_327 (c_r_isAgain hs_z hk35) dX12_laysRooms_100 (hs_z.1 0 (12, 0) rfl) (by decide) rfl rfl rfl (Nat.le_of_ble_eq_true rfl) (by decide) (by decide) (Nat.le_refl _) (Nat.le_refl _) (fun _ _ hq => ?_)
            obtain ⟨rfl, rfl⟩ := hq
            refine V.iinc (v := (l5 + 1)) dX12_laysRooms_103 rfl rfl (by first | exact rfl | exact trivial) ?_
            refine V.goto 10 dX12_laysRooms_106 (by decide) ?_
            exact V.lo [(0, some (.ref z)), (1, some (.int g1)), (2, some (.int g2)), (3, some (.int g3)), (4, some (.int x32)), (5, some (.int (l5 + 1)))] (by simp only [Subs]; repeat' first | exact trivial | constructor | rfl) (ih _ _ _ hf hk)
          · rw [if_neg c31] at hf
            refine V.iconst (v := 1) dX12_laysRooms_91 (by decide) ?_
            refine V.goto 96 dX12_laysRooms_92 (by decide) ?_
            refine V.iadd dX12_laysRooms_96 ?_
            refine V.istore dX12_laysRooms_97 (by decide) (by first | exact rfl | exact trivial) ?_
            obtain ⟨x37, e38⟩ : ∃ zz_, zz_ = (l4 + 1) := ⟨_, rfl⟩
            rw [← e38] at hf ⊢
            try dsimp only at hf
            refine V.aload_n dX12_laysRooms_99 rfl ?_
            obtain ⟨I41, hk40, hf⟩ := bnd_some hf
            try dsimp only at hf
            refine V.inv cv_X12_327 (c_r_isAgain hs_z hk40) dX12_laysRooms_100 (hs_z.1 0 (12, 0) rfl) (by decide) rfl rfl rfl (Nat.le_of_ble_eq_true rfl) (by decide) (by decide) (Nat.le_refl _) (Nat.le_refl _) (fun _ _ hq => ?_)
            obtain ⟨rfl, rfl⟩ := hq
            refine V.iinc (v := (l5 + 1)) dX12_laysRooms_103 rfl rfl (by first | exact rfl | exact trivial) ?_
            refine V.goto 10 dX12_laysRooms_106 (by decide) ?_
            exact V.lo [(0, some (.ref z)), (1, some (.int g1)), (2, some (.int g2)), (3, some (.int g3)), (4, some (.int x37)), (5, some (.int (l5 + 1)))] (by simp only [Subs]; repeat' first | exact trivial | constructor | rfl) (ih _ _ _ hf hk)
      · rw [if_pos c12] at hf
        refine V.iload dX12_laysRooms_46 rfl ?_
        refine V.aload_n dX12_laysRooms_48 rfl ?_
        refine V.getr fl_X12_73 dX12_laysRooms_49 (hs_z.1 0 (12, 0) rfl) (hs_z.2 0 34 19 rfl) (by decide) rfl ?_
        refine V.iload_n dX12_laysRooms_52 rfl ?_
        obtain ⟨hb42, hf⟩ := chk_some hf
        refine V.iald dX12_laysRooms_53 (hs_z.1 19 (20, 4) rfl) hb42 ?_
        refine V.icmp_ne 61 dX12_laysRooms_54 (by decide) (fun c43 => ?_) (fun c43 => ?_)
        · rw [if_neg c43] at hf
          refine V.iconst (v := 0) dX12_laysRooms_61 (by decide) ?_
          refine V.goto 78 dX12_laysRooms_62 (by decide) ?_
          obtain ⟨hb44, hf⟩ := chk_some hf
          refine V.zastE dX12_laysRooms_78 (hs_z.1 14 (23, 100) rfl) hb44 (fun I45 e46 => ?_)
          rw [← e46] at hf
          try dsimp only at hf
          clear e46
          refine V.iload dX12_laysRooms_79 rfl ?_
          refine V.aload_n dX12_laysRooms_81 rfl ?_
          refine V.getr fl_X12_57 dX12_laysRooms_82 (hs_z.1 0 (12, 0) rfl) (hs_z.2 0 29 14 rfl) (by decide) rfl ?_
          refine V.iload dX12_laysRooms_85 rfl ?_
          refine V.zald dX12_laysRooms_87 (hs_z.1 14 (23, 100) rfl) hb44 ?_
          refine V.if_eq 95 dX12_laysRooms_88 (by decide) (fun c47 => ?_) (fun c47 => ?_)
          · rw [if_pos c47] at hf
            refine V.iconst (v := 0) dX12_laysRooms_95 (by decide) ?_
            refine V.iadd dX12_laysRooms_96 ?_
            refine V.istore dX12_laysRooms_97 (by decide) (by first | exact rfl | exact trivial) ?_
            obtain ⟨x48, e49⟩ : ∃ zz_, zz_ = (l4 + 0) := ⟨_, rfl⟩
            rw [← e49] at hf ⊢
            try dsimp only at hf
            refine V.aload_n dX12_laysRooms_99 rfl ?_
            obtain ⟨I52, hk51, hf⟩ := bnd_some hf
            try dsimp only at hf
            refine V.inv cv_X12_327 (c_r_isAgain hs_z hk51) dX12_laysRooms_100 (hs_z.1 0 (12, 0) rfl) (by decide) rfl rfl rfl (Nat.le_of_ble_eq_true rfl) (by decide) (by decide) (Nat.le_refl _) (Nat.le_refl _) (fun _ _ hq => ?_)
            obtain ⟨rfl, rfl⟩ := hq
            refine V.iinc (v := (l5 + 1)) dX12_laysRooms_103 rfl rfl (by first | exact rfl | exact trivial) ?_
            refine V.goto 10 dX12_laysRooms_106 (by decide) ?_
            exact V.lo [(0, some (.ref z)), (1, some (.int g1)), (2, some (.int g2)), (3, some (.int g3)), (4, some (.int x48)), (5, some (.int (l5 + 1)))] (by simp only [Subs]; repeat' first | exact trivial | constructor | rfl) (ih _ _ _ hf hk)
          · rw [if_neg c47] at hf
            refine V.iconst (v := 1) dX12_laysRooms_91 (by decide) ?_
            refine V.goto 96 dX12_laysRooms_92 (by decide) ?_
            refine V.iadd dX12_laysRooms_96 ?_
            refine V.istore dX12_laysRooms_97 (by decide) (by first | exact rfl | exact trivial) ?_
            obtain ⟨x53, e54⟩ : ∃ zz_, zz_ = (l4 + 1) := ⟨_, rfl⟩
            rw [← e54] at hf ⊢
            try dsimp only at hf
            refine V.aload_n dX12_laysRooms_99 rfl ?_
            obtain ⟨I57, hk56, hf⟩ := bnd_some hf
            try dsimp only at hf
            refine V.inv cv_X12_327 (c_r_isAgain hs_z hk56) dX12_laysRooms_100 (hs_z.1 0 (12, 0) rfl) (by decide) rfl rfl rfl (Nat.le_of_ble_eq_true rfl) (by decide) (by decide) (Nat.le_refl _) (Nat.le_refl _) (fun _ _ hq => ?_)
            obtain ⟨rfl, rfl⟩ := hq
            refine V.iinc (v := (l5 + 1)) dX12_laysRooms_103 rfl rfl (by first | exact rfl | exact trivial) ?_
            refine V.goto 10 dX12_laysRooms_106 (by decide) ?_
            exact V.lo [(0, some (.ref z)), (1, some (.int g1)), (2, some (.int g2)), (3, some (.int g3)), (4, some (.int x53)), (5, some (.int (l5 + 1)))] (by simp only [Subs]; repeat' first | exact trivial | constructor | rfl) (ih _ _ _ hf hk)
        · rw [if_pos c43] at hf
          refine V.iconst (v := 1) dX12_laysRooms_57 (by decide) ?_
          refine V.goto 78 dX12_laysRooms_58 (by decide) ?_
          obtain ⟨hb58, hf⟩ := chk_some hf
          refine V.zastE dX12_laysRooms_78 (hs_z.1 14 (23, 100) rfl) hb58 (fun I59 e60 => ?_)
          rw [← e60] at hf
          try dsimp only at hf
          clear e60
          refine V.iload dX12_laysRooms_79 rfl ?_
          refine V.aload_n dX12_laysRooms_81 rfl ?_
          refine V.getr fl_X12_57 dX12_laysRooms_82 (hs_z.1 0 (12, 0) rfl) (hs_z.2 0 29 14 rfl) (by decide) rfl ?_
          refine V.iload dX12_laysRooms_85 rfl ?_
          refine V.zald dX12_laysRooms_87 (hs_z.1 14 (23, 100) rfl) hb58 ?_
          refine V.if_eq 95 dX12_laysRooms_88 (by decide) (fun c61 => ?_) (fun c61 => ?_)
          · rw [if_pos c61] at hf
            refine V.iconst (v := 0) dX12_laysRooms_95 (by decide) ?_
            refine V.iadd dX12_laysRooms_96 ?_
            refine V.istore dX12_laysRooms_97 (by decide) (by first | exact rfl | exact trivial) ?_
            obtain ⟨x62, e63⟩ : ∃ zz_, zz_ = (l4 + 0) := ⟨_, rfl⟩
            rw [← e63] at hf ⊢
            try dsimp only at hf
            refine V.aload_n dX12_laysRooms_99 rfl ?_
            obtain ⟨I66, hk65, hf⟩ := bnd_some hf
            try dsimp only at hf
            refine V.inv cv_X12_327 (c_r_isAgain hs_z hk65) dX12_laysRooms_100 (hs_z.1 0 (12, 0) rfl) (by decide) rfl rfl rfl (Nat.le_of_ble_eq_true rfl) (by decide) (by decide) (Nat.le_refl _) (Nat.le_refl _) (fun _ _ hq => ?_)
            obtain ⟨rfl, rfl⟩ := hq
            refine V.iinc (v := (l5 + 1)) dX12_laysRooms_103 rfl rfl (by first | exact rfl | exact trivial) ?_
            refine V.goto 10 dX12_laysRooms_106 (by decide) ?_
            exact V.lo [(0, some (.ref z)), (1, some (.int g1)), (2, some (.int g2)), (3, some (.int g3)), (4, some (.int x62)), (5, some (.int (l5 + 1)))] (by simp only [Subs]; repeat' first | exact trivial | constructor | rfl) (ih _ _ _ hf hk)
          · rw [if_neg c61] at hf
            refine V.iconst (v := 1) dX12_laysRooms_91 (by decide) ?_
            refine V.goto 96 dX12_laysRooms_92 (by decide) ?_
            refine V.iadd dX12_laysRooms_96 ?_
            refine V.istore dX12_laysRooms_97 (by decide) (by first | exact rfl | exact trivial) ?_
            obtain ⟨x67, e68⟩ : ∃ zz_, zz_ = (l4 + 1) := ⟨_, rfl⟩
            rw [← e68] at hf ⊢
            try dsimp only at hf
            refine V.aload_n dX12_laysRooms_99 rfl ?_
            obtain ⟨I71, hk70, hf⟩ := bnd_some hf
            try dsimp only at hf
            refine V.inv cv_X12_327 (c_r_isAgain hs_z hk70) dX12_laysRooms_100 (hs_z.1 0 (12, 0) rfl) (by decide) rfl rfl rfl (Nat.le_of_ble_eq_true rfl) (by decide) (by decide) (Nat.le_refl _) (Nat.le_refl _) (fun _ _ hq => ?_)
            obtain ⟨rfl, rfl⟩ := hq
            refine V.iinc (v := (l5 + 1)) dX12_laysRooms_103 rfl rfl (by first | exact rfl | exact trivial) ?_
            refine V.goto 10 dX12_laysRooms_106 (by decide) ?_
            exact V.lo [(0, some (.ref z)), (1, some (.int g1)), (2, some (.int g2)), (3, some (.int g3)), (4, some (.int x67)), (5, some (.int (l5 + 1)))] (by simp only [Subs]; repeat' first | exact trivial | constructor | rfl) (ih _ _ _ hf hk)
theorem c_r_laysRooms {l : Launch} {D : va_G} {E : Nat → ClassId} {B : Nat → Prop} {n F : Nat} {T : Nat → Option (Nat × Nat)} {I : Nat → Nat → Int32} {J : Nat → Nat → Int64} {P : Nat → Nat → Option Nat} {z : Nat} {v1 : Int32} {v2 : Int32} {v3 : Int32} {r : Int32 × (Nat → Nat → Int32)} (hs_z : isMd T P z) (hf : r_laysRooms F I J z v1 v2 v3 = some r) : Ct l D E B yX12_laysRooms cX12_laysRooms 7 (some .int) 7 0 0 [.ref z, .int v1, .int v2, .int v3] (n, T, I, J, P) (Ret (some (.int r.1)) (n, T, r.2, J, P)) := by
  unfold r_laysRooms at hf
  refine Ct.ofV (by decide) (Nat.le_of_ble_eq_true rfl) ?_
  refine V.aload_n dX12_laysRooms_0 rfl ?_
  obtain ⟨I3, hk2, hf⟩ := bnd_some hf
  try dsimp only at hf
  refine V.inv cv_X12_264 (c_r_keeps hs_z hk2) dX12_laysRooms_1 (hs_z.1 0 (12, 0) rfl) (by decide) rfl rfl rfl (Nat.le_of_ble_eq_true rfl) (by decide) (by decide) (Nat.le_refl _) (Nat.le_refl _) (fun _ _ hq => ?_)
  obtain ⟨rfl, rfl⟩ := hq
  refine V.iconst (v := 0) dX12_laysRooms_4 (by decide) ?_
  refine V.istore dX12_laysRooms_5 (by decide) (by first | exact rfl | exact trivial) ?_
  refine V.iconst (v := 0) dX12_laysRooms_7 (by decide) ?_
  refine V.istore dX12_laysRooms_8 (by decide) (by first | exact rfl | exact trivial) ?_
  obtain ⟨⟨m74, m75, I76⟩, hk73, hf⟩ := bnd_some hf
  try dsimp only at hf
  refine V.lo [(0, some (.ref z)), (1, some (.int v1)), (2, some (.int v2)), (3, some (.int v3)), (4, some (.int 0)), (5, some (.int 0))] (by simp only [Subs]; repeat' first | exact trivial | constructor | rfl) (l_r_laysRooms_10 hs_z _ F _ _ _ hk73 ?_)
  try dsimp only
  refine V.iload dX12_laysRooms_109 rfl ?_
  obtain rfl := Option.some.inj hf
  exact V.iret dX12_laysRooms_111 rfl (Nat.le_refl _) (Nat.le_refl _) ⟨rfl, rfl⟩
theorem dX12_rooms_0 : decode cX12_rooms 0 = .ok (.aload_n 0, 1) := by decide +kernel
theorem dX12_rooms_1 : decode cX12_rooms 1 = .ok (.iconst 0, 1) := by decide +kernel
theorem dX12_rooms_2 : decode cX12_rooms 2 = .ok (.putfield 1, 3) := by decide +kernel
theorem dX12_rooms_5 : decode cX12_rooms 5 = .ok (.aload_n 0, 1) := by decide +kernel
theorem dX12_rooms_6 : decode cX12_rooms 6 = .ok (.iload_n 1, 1) := by decide +kernel
theorem dX12_rooms_7 : decode cX12_rooms 7 = .ok (.iload_n 2, 1) := by decide +kernel
theorem dX12_rooms_8 : decode cX12_rooms 8 = .ok (.iload_n 3, 1) := by decide +kernel
theorem dX12_rooms_9 : decode cX12_rooms 9 = .ok (.invokevirtual 411, 3) := by decide +kernel
theorem dX12_rooms_12 : decode cX12_rooms 12 = .ok (.istore 4, 2) := by decide +kernel
theorem dX12_rooms_14 : decode cX12_rooms 14 = .ok (.iload 4, 2) := by decide +kernel
theorem dX12_rooms_16 : decode cX12_rooms 16 = .ok (.ifCond .eq 8, 3) := by decide +kernel
theorem dX12_rooms_19 : decode cX12_rooms 19 = .ok (.iload 4, 2) := by decide +kernel
theorem dX12_rooms_21 : decode cX12_rooms 21 = .ok (.goto 10, 3) := by decide +kernel
theorem dX12_rooms_24 : decode cX12_rooms 24 = .ok (.aload_n 0, 1) := by decide +kernel
theorem dX12_rooms_25 : decode cX12_rooms 25 = .ok (.iload_n 1, 1) := by decide +kernel
theorem dX12_rooms_26 : decode cX12_rooms 26 = .ok (.iload_n 2, 1) := by decide +kernel
theorem dX12_rooms_27 : decode cX12_rooms 27 = .ok (.iload_n 3, 1) := by decide +kernel
theorem dX12_rooms_28 : decode cX12_rooms 28 = .ok (.invokevirtual 414, 3) := by decide +kernel
theorem dX12_rooms_31 : decode cX12_rooms 31 = .ok (.ireturn, 1) := by decide +kernel
def r_rooms (F : Nat) (I : Nat → Nat → Int32) (J : Nat → Nat → Int64) (z : Nat) (v1 : Int32) (v2 : Int32) (v3 : Int32) : Option (Int32 × (Nat → Nat → Int32)) := let I1 := uI I z 0 0; (r_noRooms F I1 J z v1 v2 v3).bind (fun q3 => let u5 := q3; if u5 = 0 then ((r_laysRooms F I1 J z v1 v2 v3).bind (fun q7 => let u9 := q7.1; let I10 := q7.2; some (u9, I10))) else (some (u5, I1)))
theorem c_r_rooms {l : Launch} {D : va_G} {E : Nat → ClassId} {B : Nat → Prop} {n F : Nat} {T : Nat → Option (Nat × Nat)} {I : Nat → Nat → Int32} {J : Nat → Nat → Int64} {P : Nat → Nat → Option Nat} {z : Nat} {v1 : Int32} {v2 : Int32} {v3 : Int32} {r : Int32 × (Nat → Nat → Int32)} (hs_z : isMd T P z) (hf : r_rooms F I J z v1 v2 v3 = some r) : Ct l D E B yX12_rooms cX12_rooms 5 (some .int) 8 0 0 [.ref z, .int v1, .int v2, .int v3] (n, T, I, J, P) (Ret (some (.int r.1)) (n, T, r.2, J, P)) := by
  unfold r_rooms at hf
  refine Ct.ofV (by decide) (Nat.le_of_ble_eq_true rfl) ?_
  refine V.aload_n dX12_rooms_0 rfl ?_
  refine V.iconst (v := 0) dX12_rooms_1 (by decide) ?_
  refine V.putiE fl_X12_1 dX12_rooms_2 (hs_z.1 0 (12, 0) rfl) (by decide) (fun h => by cases h) rfl rfl rfl (Nat.le_of_ble_eq_true rfl) (fun I1 e2 => ?_)
  rw [← e2] at hf
  try dsimp only at hf
  clear e2
  refine V.aload_n dX12_rooms_5 rfl ?_
  refine V.iload_n dX12_rooms_6 rfl ?_
  refine V.iload_n dX12_rooms_7 rfl ?_
  refine V.iload_n dX12_rooms_8 rfl ?_
  obtain ⟨u5, hk4, hf⟩ := bnd_some hf
  try dsimp only at hf
  refine V.inv cv_X12_411 (c_r_noRooms hs_z hk4) dX12_rooms_9 (hs_z.1 0 (12, 0) rfl) (by decide) rfl rfl rfl (Nat.le_of_ble_eq_true rfl) (by decide) (by decide) (Nat.le_refl _) (Nat.le_refl _) (fun _ _ hq => ?_)
  obtain ⟨rfl, rfl⟩ := hq
  refine V.istore dX12_rooms_12 (by decide) (by first | exact rfl | exact trivial) ?_
  refine V.iload dX12_rooms_14 rfl ?_
  refine V.if_eq 24 dX12_rooms_16 (by decide) (fun c6 => ?_) (fun c6 => ?_)
  · rw [if_pos c6] at hf
    refine V.aload_n dX12_rooms_24 rfl ?_
    refine V.iload_n dX12_rooms_25 rfl ?_
    refine V.iload_n dX12_rooms_26 rfl ?_
    refine V.iload_n dX12_rooms_27 rfl ?_
    obtain ⟨⟨u9, I10⟩, hk8, hf⟩ := bnd_some hf
    try dsimp only at hf
    refine V.inv cv_X12_414 (c_r_laysRooms hs_z hk8) dX12_rooms_28 (hs_z.1 0 (12, 0) rfl) (by decide) rfl rfl rfl (Nat.le_of_ble_eq_true rfl) (by decide) (by decide) (Nat.le_refl _) (Nat.le_refl _) (fun _ _ hq => ?_)
    obtain ⟨rfl, rfl⟩ := hq
    try dsimp only
    obtain rfl := Option.some.inj hf
    exact V.iret dX12_rooms_31 rfl (Nat.le_refl _) (Nat.le_refl _) ⟨rfl, rfl⟩
  · rw [if_neg c6] at hf
    refine V.iload dX12_rooms_19 rfl ?_
    refine V.goto 31 dX12_rooms_21 (by decide) ?_
    obtain rfl := Option.some.inj hf
    exact V.iret dX12_rooms_31 rfl (Nat.le_refl _) (Nat.le_refl _) ⟨rfl, rfl⟩
theorem dX12_bound_0 : decode cX12_bound 0 = .ok (.aload_n 0, 1) := by decide +kernel
theorem dX12_bound_1 : decode cX12_bound 1 = .ok (.iconst 0, 1) := by decide +kernel
theorem dX12_bound_2 : decode cX12_bound 2 = .ok (.putfield 1, 3) := by decide +kernel
theorem dX12_bound_5 : decode cX12_bound 5 = .ok (.iload 4, 2) := by decide +kernel
theorem dX12_bound_7 : decode cX12_bound 7 = .ok (.invokestatic 408, 3) := by decide +kernel
theorem dX12_bound_10 : decode cX12_bound 10 = .ok (.ifCond .ne 6, 3) := by decide +kernel
theorem dX12_bound_13 : decode cX12_bound 13 = .ok (.bipush (-2), 2) := by decide +kernel
theorem dX12_bound_15 : decode cX12_bound 15 = .ok (.ireturn, 1) := by decide +kernel
theorem dX12_bound_16 : decode cX12_bound 16 = .ok (.aload_n 0, 1) := by decide +kernel
theorem dX12_bound_17 : decode cX12_bound 17 = .ok (.iload_n 1, 1) := by decide +kernel
theorem dX12_bound_18 : decode cX12_bound 18 = .ok (.iload_n 2, 1) := by decide +kernel
theorem dX12_bound_19 : decode cX12_bound 19 = .ok (.iload_n 3, 1) := by decide +kernel
theorem dX12_bound_20 : decode cX12_bound 20 = .ok (.invokevirtual 411, 3) := by decide +kernel
theorem dX12_bound_23 : decode cX12_bound 23 = .ok (.istore 5, 2) := by decide +kernel
theorem dX12_bound_25 : decode cX12_bound 25 = .ok (.iload 5, 2) := by decide +kernel
theorem dX12_bound_27 : decode cX12_bound 27 = .ok (.ifCond .eq 6, 3) := by decide +kernel
theorem dX12_bound_30 : decode cX12_bound 30 = .ok (.iload 5, 2) := by decide +kernel
theorem dX12_bound_32 : decode cX12_bound 32 = .ok (.ireturn, 1) := by decide +kernel
theorem dX12_bound_33 : decode cX12_bound 33 = .ok (.aload_n 0, 1) := by decide +kernel
theorem dX12_bound_34 : decode cX12_bound 34 = .ok (.iload_n 1, 1) := by decide +kernel
theorem dX12_bound_35 : decode cX12_bound 35 = .ok (.iload_n 2, 1) := by decide +kernel
theorem dX12_bound_36 : decode cX12_bound 36 = .ok (.iload_n 3, 1) := by decide +kernel
theorem dX12_bound_37 : decode cX12_bound 37 = .ok (.invokevirtual 414, 3) := by decide +kernel
theorem dX12_bound_40 : decode cX12_bound 40 = .ok (.pop, 1) := by decide +kernel
theorem dX12_bound_41 : decode cX12_bound 41 = .ok (.iconst (-1), 1) := by decide +kernel
theorem dX12_bound_42 : decode cX12_bound 42 = .ok (.istore 6, 2) := by decide +kernel
theorem dX12_bound_44 : decode cX12_bound 44 = .ok (.iconst 0, 1) := by decide +kernel
theorem dX12_bound_45 : decode cX12_bound 45 = .ok (.istore 7, 2) := by decide +kernel
theorem dX12_bound_47 : decode cX12_bound 47 = .ok (.iload 7, 2) := by decide +kernel
theorem dX12_bound_49 : decode cX12_bound 49 = .ok (.bipush 99, 2) := by decide +kernel
theorem dX12_bound_51 : decode cX12_bound 51 = .ok (.if_icmp .gt 35, 3) := by decide +kernel
theorem dX12_bound_54 : decode cX12_bound 54 = .ok (.aload_n 0, 1) := by decide +kernel
theorem dX12_bound_55 : decode cX12_bound 55 = .ok (.getfield 57, 3) := by decide +kernel
theorem dX12_bound_58 : decode cX12_bound 58 = .ok (.iload 7, 2) := by decide +kernel
theorem dX12_bound_60 : decode cX12_bound 60 = .ok (.baload, 1) := by decide +kernel
theorem dX12_bound_61 : decode cX12_bound 61 = .ok (.ifCond .eq 19, 3) := by decide +kernel
theorem dX12_bound_64 : decode cX12_bound 64 = .ok (.iload 4, 2) := by decide +kernel
theorem dX12_bound_66 : decode cX12_bound 66 = .ok (.iconst 1, 1) := by decide +kernel
theorem dX12_bound_67 : decode cX12_bound 67 = .ok (.if_icmp .eq 9, 3) := by decide +kernel
theorem dX12_bound_70 : decode cX12_bound 70 = .ok (.iload 6, 2) := by decide +kernel
theorem dX12_bound_72 : decode cX12_bound 72 = .ok (.iconst (-1), 1) := by decide +kernel
theorem dX12_bound_73 : decode cX12_bound 73 = .ok (.if_icmp .ne 7, 3) := by decide +kernel
theorem dX12_bound_76 : decode cX12_bound 76 = .ok (.iload 7, 2) := by decide +kernel
theorem dX12_bound_78 : decode cX12_bound 78 = .ok (.istore 6, 2) := by decide +kernel
theorem dX12_bound_80 : decode cX12_bound 80 = .ok (.iinc 7 1, 3) := by decide +kernel
theorem dX12_bound_83 : decode cX12_bound 83 = .ok (.goto (-36), 3) := by decide +kernel
theorem dX12_bound_86 : decode cX12_bound 86 = .ok (.iload 6, 2) := by decide +kernel
theorem dX12_bound_88 : decode cX12_bound 88 = .ok (.ireturn, 1) := by decide +kernel
def r_bound_47 (F : Nat) (I : Nat → Nat → Int32) (z : Nat) (g1 : Int32) (g2 : Int32) (g3 : Int32) (g4 : Int32) (g5 : Int32) : Nat → Int32 → Int32 → Option (Int32 × Int32)
  | 0, _, _ => none
  | k + 1, l6, l7 => if 99 < l7 then (some (l6, l7)) else (chk l7 100 (if (I (z + 14) (Int32.toNatClampNeg l7)) = 0 then (r_bound_47 F I z g1 g2 g3 g4 g5 k l6 (l7 + 1)) else (if g4 = 1 then (r_bound_47 F I z g1 g2 g3 g4 g5 k l7 (l7 + 1)) else (if l6 = (-1) then (r_bound_47 F I z g1 g2 g3 g4 g5 k l7 (l7 + 1)) else (r_bound_47 F I z g1 g2 g3 g4 g5 k l6 (l7 + 1))))))
def r_bound (F : Nat) (I : Nat → Nat → Int32) (J : Nat → Nat → Int64) (z : Nat) (v1 : Int32) (v2 : Int32) (v3 : Int32) (v4 : Int32) : Option (Int32 × (Nat → Nat → Int32)) := let I1 := uI I z 0 0; (r_isWhat v4).bind (fun q3 => let u5 := q3; if u5 = 0 then (some ((-2), I1)) else ((r_noRooms F I1 J z v1 v2 v3).bind (fun q7 => let u9 := q7; if u9 = 0 then ((r_laysRooms F I1 J z v1 v2 v3).bind (fun q11 => let u13 := q11.1; let I14 := q11.2; (r_bound_47 F I14 z v1 v2 v3 v4 u9 F (-1) 0).bind (fun q20 => let m22 := q20.1; let m23 := q20.2; some (m22, I14)))) else (some (u9, I1)))))
theorem l_r_bound_47 {l : Launch} {D : va_G} {E : Nat → ClassId} {B : Nat → Prop} {n F : Nat} {Q : Option Value → HT → Prop} {T : Nat → Option (Nat × Nat)} {I : Nat → Nat → Int32} {J : Nat → Nat → Int64} {P : Nat → Nat → Option Nat} {z : Nat} {g1 : Int32} {g2 : Int32} {g3 : Int32} {g4 : Int32} {g5 : Int32} (hs_z : isMd T P z)  (r : Int32 × Int32) : ∀ (k : Nat) (l6 : Int32) (l7 : Int32), r_bound_47 F I z g1 g2 g3 g4 g5 k l6 l7 = some r → V l D E B yX12_bound cX12_bound 8 (some .int) 8 0 0 Q 0 0 (n, T, I, J, P) 86 [(0, some (.ref z)), (1, some (.int g1)), (2, some (.int g2)), (3, some (.int g3)), (4, some (.int g4)), (5, some (.int g5)), (6, some (.int (r.1))), (7, some (.int (r.2)))] [] → V l D E B yX12_bound cX12_bound 8 (some .int) 8 0 0 Q 0 0 (n, T, I, J, P) 47 [(0, some (.ref z)), (1, some (.int g1)), (2, some (.int g2)), (3, some (.int g3)), (4, some (.int g4)), (5, some (.int g5)), (6, some (.int l6)), (7, some (.int l7))] [] := by
  intro k
  induction k with
  | zero =>
    intro l6 l7 hf hk
    cases hf
  | succ k ih =>
    intro l6 l7 hf hk
    unfold r_bound_47 at hf
    refine V.iload dX12_bound_47 rfl ?_
    refine V.bipush (v := 99) dX12_bound_49 (by decide) ?_
    refine V.icmp_gt 86 dX12_bound_51 (by decide) (fun c15 => ?_) (fun c15 => ?_)
    · rw [if_pos c15] at hf
      obtain rfl := Option.some.inj hf
      exact V.lo [(0, some (.ref z)), (1, some (.int g1)), (2, some (.int g2)), (3, some (.int g3)), (4, some (.int g4)), (5, some (.int g5)), (6, some (.int l6)), (7, some (.int l7))] (by simp only [Subs]; repeat' first | exact trivial | constructor | rfl) hk
    · rw [if_neg c15] at hf
      refine V.aload_n dX12_bound_54 rfl ?_
      refine V.getr fl_X12_57 dX12_bound_55 (hs_z.1 0 (12, 0) rfl) (hs_z.2 0 29 14 rfl) (by decide) rfl ?_
      refine V.iload dX12_bound_58 rfl ?_
      obtain ⟨hb16, hf⟩ := chk_some hf
      refine V.zald dX12_bound_60 (hs_z.1 14 (23, 100) rfl) hb16 ?_
      refine V.if_eq 80 dX12_bound_61 (by decide) (fun c17 => ?_) (fun c17 => ?_)
      · rw [if_pos c17] at hf
        refine V.iinc (v := (l7 + 1)) dX12_bound_80 rfl rfl (by first | exact rfl | exact trivial) ?_
        refine V.goto 47 dX12_bound_83 (by decide) ?_
        exact V.lo [(0, some (.ref z)), (1, some (.int g1)), (2, some (.int g2)), (3, some (.int g3)), (4, some (.int g4)), (5, some (.int g5)), (6, some (.int l6)), (7, some (.int (l7 + 1)))] (by simp only [Subs]; repeat' first | exact trivial | constructor | rfl) (ih _ _ hf hk)
      · rw [if_neg c17] at hf
        refine V.iload dX12_bound_64 rfl ?_
        refine V.iconst (v := 1) dX12_bound_66 (by decide) ?_
        refine V.icmp_eq 76 dX12_bound_67 (by decide) (fun c18 => ?_) (fun c18 => ?_)
        · rw [if_pos c18] at hf
          refine V.iload dX12_bound_76 rfl ?_
          refine V.istore dX12_bound_78 (by decide) (by first | exact rfl | exact trivial) ?_
          refine V.iinc (v := (l7 + 1)) dX12_bound_80 rfl rfl (by first | exact rfl | exact trivial) ?_
          refine V.goto 47 dX12_bound_83 (by decide) ?_
          exact V.lo [(0, some (.ref z)), (1, some (.int g1)), (2, some (.int g2)), (3, some (.int g3)), (4, some (.int g4)), (5, some (.int g5)), (6, some (.int l7)), (7, some (.int (l7 + 1)))] (by simp only [Subs]; repeat' first | exact trivial | constructor | rfl) (ih _ _ hf hk)
        · rw [if_neg c18] at hf
          refine V.iload dX12_bound_70 rfl ?_
          refine V.iconst (v := -1) dX12_bound_72 (by decide) ?_
          refine V.icmp_ne 80 dX12_bound_73 (by decide) (fun c19 => ?_) (fun c19 => ?_)
          · rw [if_neg c19] at hf
            refine V.iinc (v := (l7 + 1)) dX12_bound_80 rfl rfl (by first | exact rfl | exact trivial) ?_
            refine V.goto 47 dX12_bound_83 (by decide) ?_
            exact V.lo [(0, some (.ref z)), (1, some (.int g1)), (2, some (.int g2)), (3, some (.int g3)), (4, some (.int g4)), (5, some (.int g5)), (6, some (.int l6)), (7, some (.int (l7 + 1)))] (by simp only [Subs]; repeat' first | exact trivial | constructor | rfl) (ih _ _ hf hk)
          · rw [if_pos c19] at hf
            refine V.iload dX12_bound_76 rfl ?_
            refine V.istore dX12_bound_78 (by decide) (by first | exact rfl | exact trivial) ?_
            refine V.iinc (v := (l7 + 1)) dX12_bound_80 rfl rfl (by first | exact rfl | exact trivial) ?_
            refine V.goto 47 dX12_bound_83 (by decide) ?_
            exact V.lo [(0, some (.ref z)), (1, some (.int g1)), (2, some (.int g2)), (3, some (.int g3)), (4, some (.int g4)), (5, some (.int g5)), (6, some (.int l7)), (7, some (.int (l7 + 1)))] (by simp only [Subs]; repeat' first | exact trivial | constructor | rfl) (ih _ _ hf hk)
theorem c_r_bound {l : Launch} {D : va_G} {E : Nat → ClassId} {B : Nat → Prop} {n F : Nat} {T : Nat → Option (Nat × Nat)} {I : Nat → Nat → Int32} {J : Nat → Nat → Int64} {P : Nat → Nat → Option Nat} {z : Nat} {v1 : Int32} {v2 : Int32} {v3 : Int32} {v4 : Int32} {r : Int32 × (Nat → Nat → Int32)} (hs_z : isMd T P z) (hf : r_bound F I J z v1 v2 v3 v4 = some r) : Ct l D E B yX12_bound cX12_bound 8 (some .int) 8 0 0 [.ref z, .int v1, .int v2, .int v3, .int v4] (n, T, I, J, P) (Ret (some (.int r.1)) (n, T, r.2, J, P)) := by
  unfold r_bound at hf
  refine Ct.ofV (by decide) (Nat.le_of_ble_eq_true rfl) ?_
  refine V.aload_n dX12_bound_0 rfl ?_
  refine V.iconst (v := 0) dX12_bound_1 (by decide) ?_
  refine V.putiE fl_X12_1 dX12_bound_2 (hs_z.1 0 (12, 0) rfl) (by decide) (fun h => by cases h) rfl rfl rfl (Nat.le_of_ble_eq_true rfl) (fun I1 e2 => ?_)
  rw [← e2] at hf
  try dsimp only at hf
  clear e2
  refine V.iload dX12_bound_5 rfl ?_
  obtain ⟨u5, hk4, hf⟩ := bnd_some hf
  try dsimp only at hf
  refine V.ins cs_X12_408 (c_r_isWhat hk4) dX12_bound_7 rfl rfl (Nat.le_of_ble_eq_true rfl) (by decide) (by decide) (Nat.le_refl _) (Nat.le_refl _) (fun _ _ hq => ?_)
  obtain ⟨rfl, rfl⟩ := hq
  refine V.if_ne 16 dX12_bound_10 (by decide) (fun c6 => ?_) (fun c6 => ?_)
  · rw [if_neg c6] at hf
    refine V.aload_n dX12_bound_16 rfl ?_
    refine V.iload_n dX12_bound_17 rfl ?_
    refine V.iload_n dX12_bound_18 rfl ?_
    refine V.iload_n dX12_bound_19 rfl ?_
    obtain ⟨u9, hk8, hf⟩ := bnd_some hf
    try dsimp only at hf
    refine V.inv cv_X12_411 (c_r_noRooms hs_z hk8) dX12_bound_20 (hs_z.1 0 (12, 0) rfl) (by decide) rfl rfl rfl (Nat.le_of_ble_eq_true rfl) (by decide) (by decide) (Nat.le_refl _) (Nat.le_refl _) (fun _ _ hq => ?_)
    obtain ⟨rfl, rfl⟩ := hq
    refine V.istore dX12_bound_23 (by decide) (by first | exact rfl | exact trivial) ?_
    refine V.iload dX12_bound_25 rfl ?_
    refine V.if_eq 33 dX12_bound_27 (by decide) (fun c10 => ?_) (fun c10 => ?_)
    · rw [if_pos c10] at hf
      refine V.aload_n dX12_bound_33 rfl ?_
      refine V.iload_n dX12_bound_34 rfl ?_
      refine V.iload_n dX12_bound_35 rfl ?_
      refine V.iload_n dX12_bound_36 rfl ?_
      obtain ⟨⟨u13, I14⟩, hk12, hf⟩ := bnd_some hf
      try dsimp only at hf
      refine V.inv cv_X12_414 (c_r_laysRooms hs_z hk12) dX12_bound_37 (hs_z.1 0 (12, 0) rfl) (by decide) rfl rfl rfl (Nat.le_of_ble_eq_true rfl) (by decide) (by decide) (Nat.le_refl _) (Nat.le_refl _) (fun _ _ hq => ?_)
      obtain ⟨rfl, rfl⟩ := hq
      try dsimp only
      refine V.pop dX12_bound_40 rfl ?_
      refine V.iconst (v := -1) dX12_bound_41 (by decide) ?_
      refine V.istore dX12_bound_42 (by decide) (by first | exact rfl | exact trivial) ?_
      refine V.iconst (v := 0) dX12_bound_44 (by decide) ?_
      refine V.istore dX12_bound_45 (by decide) (by first | exact rfl | exact trivial) ?_
      obtain ⟨⟨m22, m23⟩, hk21, hf⟩ := bnd_some hf
      try dsimp only at hf
      refine V.lo [(0, some (.ref z)), (1, some (.int v1)), (2, some (.int v2)), (3, some (.int v3)), (4, some (.int v4)), (5, some (.int u9)), (6, some (.int (-1))), (7, some (.int 0))] (by simp only [Subs]; repeat' first | exact trivial | constructor | rfl) (l_r_bound_47 hs_z _ F _ _ hk21 ?_)
      try dsimp only
      refine V.iload dX12_bound_86 rfl ?_
      obtain rfl := Option.some.inj hf
      exact V.iret dX12_bound_88 rfl (Nat.le_refl _) (Nat.le_refl _) ⟨rfl, rfl⟩
    · rw [if_neg c10] at hf
      refine V.iload dX12_bound_30 rfl ?_
      obtain rfl := Option.some.inj hf
      exact V.iret dX12_bound_32 rfl (Nat.le_refl _) (Nat.le_refl _) ⟨rfl, rfl⟩
  · rw [if_pos c6] at hf
    refine V.bipush (v := -2) dX12_bound_13 (by decide) ?_
    obtain rfl := Option.some.inj hf
    exact V.iret dX12_bound_15 rfl (Nat.le_refl _) (Nat.le_refl _) ⟨rfl, rfl⟩
theorem dX12_next_0 : decode cX12_next 0 = .ok (.aload_n 0, 1) := by decide +kernel
theorem dX12_next_1 : decode cX12_next 1 = .ok (.iconst 0, 1) := by decide +kernel
theorem dX12_next_2 : decode cX12_next 2 = .ok (.putfield 1, 3) := by decide +kernel
theorem dX12_next_5 : decode cX12_next 5 = .ok (.aload_n 0, 1) := by decide +kernel
theorem dX12_next_6 : decode cX12_next 6 = .ok (.iload_n 1, 1) := by decide +kernel
theorem dX12_next_7 : decode cX12_next 7 = .ok (.iload_n 2, 1) := by decide +kernel
theorem dX12_next_8 : decode cX12_next 8 = .ok (.iload_n 3, 1) := by decide +kernel
theorem dX12_next_9 : decode cX12_next 9 = .ok (.invokevirtual 411, 3) := by decide +kernel
theorem dX12_next_12 : decode cX12_next 12 = .ok (.istore 4, 2) := by decide +kernel
theorem dX12_next_14 : decode cX12_next 14 = .ok (.iload 4, 2) := by decide +kernel
theorem dX12_next_16 : decode cX12_next 16 = .ok (.ifCond .eq 6, 3) := by decide +kernel
theorem dX12_next_19 : decode cX12_next 19 = .ok (.iload 4, 2) := by decide +kernel
theorem dX12_next_21 : decode cX12_next 21 = .ok (.ireturn, 1) := by decide +kernel
theorem dX12_next_22 : decode cX12_next 22 = .ok (.aload_n 0, 1) := by decide +kernel
theorem dX12_next_23 : decode cX12_next 23 = .ok (.iload_n 1, 1) := by decide +kernel
theorem dX12_next_24 : decode cX12_next 24 = .ok (.iload_n 2, 1) := by decide +kernel
theorem dX12_next_25 : decode cX12_next 25 = .ok (.iload_n 3, 1) := by decide +kernel
theorem dX12_next_26 : decode cX12_next 26 = .ok (.invokevirtual 414, 3) := by decide +kernel
theorem dX12_next_29 : decode cX12_next 29 = .ok (.istore 5, 2) := by decide +kernel
theorem dX12_next_31 : decode cX12_next 31 = .ok (.aload_n 0, 1) := by decide +kernel
theorem dX12_next_32 : decode cX12_next 32 = .ok (.invokevirtual 264, 3) := by decide +kernel
theorem dX12_next_35 : decode cX12_next 35 = .ok (.iconst (-1), 1) := by decide +kernel
theorem dX12_next_36 : decode cX12_next 36 = .ok (.istore 6, 2) := by decide +kernel
theorem dX12_next_38 : decode cX12_next 38 = .ok (.iconst (-1), 1) := by decide +kernel
theorem dX12_next_39 : decode cX12_next 39 = .ok (.istore 7, 2) := by decide +kernel
theorem dX12_next_41 : decode cX12_next 41 = .ok (.iconst 0, 1) := by decide +kernel
theorem dX12_next_42 : decode cX12_next 42 = .ok (.istore 8, 2) := by decide +kernel
theorem dX12_next_44 : decode cX12_next 44 = .ok (.iload 8, 2) := by decide +kernel
theorem dX12_next_46 : decode cX12_next 46 = .ok (.aload_n 0, 1) := by decide +kernel
theorem dX12_next_47 : decode cX12_next 47 = .ok (.getfield 13, 3) := by decide +kernel
theorem dX12_next_50 : decode cX12_next 50 = .ok (.iconst 2, 1) := by decide +kernel
theorem dX12_next_51 : decode cX12_next 51 = .ok (.iaload, 1) := by decide +kernel
theorem dX12_next_52 : decode cX12_next 52 = .ok (.if_icmp .ge 120, 3) := by decide +kernel
theorem dX12_next_55 : decode cX12_next 55 = .ok (.iload 5, 2) := by decide +kernel
theorem dX12_next_57 : decode cX12_next 57 = .ok (.ifCond .le 115, 3) := by decide +kernel
theorem dX12_next_60 : decode cX12_next 60 = .ok (.iconst 0, 1) := by decide +kernel
theorem dX12_next_61 : decode cX12_next 61 = .ok (.istore 9, 2) := by decide +kernel
theorem dX12_next_63 : decode cX12_next 63 = .ok (.iconst 0, 1) := by decide +kernel
theorem dX12_next_64 : decode cX12_next 64 = .ok (.istore 10, 2) := by decide +kernel
theorem dX12_next_66 : decode cX12_next 66 = .ok (.iload 10, 2) := by decide +kernel
theorem dX12_next_68 : decode cX12_next 68 = .ok (.bipush 99, 2) := by decide +kernel
theorem dX12_next_70 : decode cX12_next 70 = .ok (.if_icmp .gt 52, 3) := by decide +kernel
theorem dX12_next_73 : decode cX12_next 73 = .ok (.aload_n 0, 1) := by decide +kernel
theorem dX12_next_74 : decode cX12_next 74 = .ok (.getfield 13, 3) := by decide +kernel
theorem dX12_next_77 : decode cX12_next 77 = .ok (.bipush 41, 2) := by decide +kernel
theorem dX12_next_79 : decode cX12_next 79 = .ok (.iload_n 2, 1) := by decide +kernel
theorem dX12_next_80 : decode cX12_next 80 = .ok (.iadd, 1) := by decide +kernel
theorem dX12_next_81 : decode cX12_next 81 = .ok (.iload 10, 2) := by decide +kernel
theorem dX12_next_83 : decode cX12_next 83 = .ok (.iastore, 1) := by decide +kernel
theorem dX12_next_84 : decode cX12_next 84 = .ok (.iload 9, 2) := by decide +kernel
theorem dX12_next_86 : decode cX12_next 86 = .ok (.aload_n 0, 1) := by decide +kernel
theorem dX12_next_87 : decode cX12_next 87 = .ok (.getfield 57, 3) := by decide +kernel
theorem dX12_next_90 : decode cX12_next 90 = .ok (.iload 10, 2) := by decide +kernel
theorem dX12_next_92 : decode cX12_next 92 = .ok (.baload, 1) := by decide +kernel
theorem dX12_next_93 : decode cX12_next 93 = .ok (.ifCond .eq 19, 3) := by decide +kernel
theorem dX12_next_96 : decode cX12_next 96 = .ok (.aload_n 0, 1) := by decide +kernel
theorem dX12_next_97 : decode cX12_next 97 = .ok (.iload_n 2, 1) := by decide +kernel
theorem dX12_next_98 : decode cX12_next 98 = .ok (.iload 8, 2) := by decide +kernel
theorem dX12_next_100 : decode cX12_next 100 = .ok (.invokevirtual 251, 3) := by decide +kernel
theorem dX12_next_103 : decode cX12_next 103 = .ok (.iload 10, 2) := by decide +kernel
theorem dX12_next_105 : decode cX12_next 105 = .ok (.if_icmp .le 7, 3) := by decide +kernel
theorem dX12_next_108 : decode cX12_next 108 = .ok (.iconst 1, 1) := by decide +kernel
theorem dX12_next_109 : decode cX12_next 109 = .ok (.goto 4, 3) := by decide +kernel
theorem dX12_next_112 : decode cX12_next 112 = .ok (.iconst 0, 1) := by decide +kernel
theorem dX12_next_113 : decode cX12_next 113 = .ok (.iadd, 1) := by decide +kernel
theorem dX12_next_114 : decode cX12_next 114 = .ok (.istore 9, 2) := by decide +kernel
theorem dX12_next_116 : decode cX12_next 116 = .ok (.iinc 10 1, 3) := by decide +kernel
theorem dX12_next_119 : decode cX12_next 119 = .ok (.goto (-53), 3) := by decide +kernel
theorem dX12_next_122 : decode cX12_next 122 = .ok (.aload_n 0, 1) := by decide +kernel
theorem dX12_next_123 : decode cX12_next 123 = .ok (.invokevirtual 327, 3) := by decide +kernel
theorem dX12_next_126 : decode cX12_next 126 = .ok (.iload 9, 2) := by decide +kernel
theorem dX12_next_128 : decode cX12_next 128 = .ok (.iload 5, 2) := by decide +kernel
theorem dX12_next_130 : decode cX12_next 130 = .ok (.iload 9, 2) := by decide +kernel
theorem dX12_next_132 : decode cX12_next 132 = .ok (.isub, 1) := by decide +kernel
theorem dX12_next_133 : decode cX12_next 133 = .ok (.if_icmp .ge 8, 3) := by decide +kernel
theorem dX12_next_136 : decode cX12_next 136 = .ok (.iload 9, 2) := by decide +kernel
theorem dX12_next_138 : decode cX12_next 138 = .ok (.goto 8, 3) := by decide +kernel
theorem dX12_next_141 : decode cX12_next 141 = .ok (.iload 5, 2) := by decide +kernel
theorem dX12_next_143 : decode cX12_next 143 = .ok (.iload 9, 2) := by decide +kernel
theorem dX12_next_145 : decode cX12_next 145 = .ok (.isub, 1) := by decide +kernel
theorem dX12_next_146 : decode cX12_next 146 = .ok (.istore 10, 2) := by decide +kernel
theorem dX12_next_148 : decode cX12_next 148 = .ok (.iload 10, 2) := by decide +kernel
theorem dX12_next_150 : decode cX12_next 150 = .ok (.iload 7, 2) := by decide +kernel
theorem dX12_next_152 : decode cX12_next 152 = .ok (.if_icmp .gt 6, 3) := by decide +kernel
theorem dX12_next_155 : decode cX12_next 155 = .ok (.goto 11, 3) := by decide +kernel
theorem dX12_next_158 : decode cX12_next 158 = .ok (.iload 8, 2) := by decide +kernel
theorem dX12_next_160 : decode cX12_next 160 = .ok (.istore 6, 2) := by decide +kernel
theorem dX12_next_162 : decode cX12_next 162 = .ok (.iload 10, 2) := by decide +kernel
theorem dX12_next_164 : decode cX12_next 164 = .ok (.istore 7, 2) := by decide +kernel
theorem dX12_next_166 : decode cX12_next 166 = .ok (.iinc 8 1, 3) := by decide +kernel
theorem dX12_next_169 : decode cX12_next 169 = .ok (.goto (-125), 3) := by decide +kernel
theorem dX12_next_172 : decode cX12_next 172 = .ok (.iload 6, 2) := by decide +kernel
theorem dX12_next_174 : decode cX12_next 174 = .ok (.ireturn, 1) := by decide +kernel
def r_next_66 (F : Nat) (z : Nat) (g1 : Int32) (g2 : Int32) (g3 : Int32) (g4 : Int32) (g5 : Int32) (g6 : Int32) (g7 : Int32) (g8 : Int32) : Nat → Int32 → Int32 → (Nat → Nat → Int32) → Option (Int32 × Int32 × (Nat → Nat → Int32))
  | 0, _, _, _ => none
  | k + 1, l9, l10, I => if 99 < l10 then (some (l9, l10, I)) else (chk (41 + g2) 3891 (let I18 := uI I (z + 1) (Int32.toNatClampNeg (41 + g2)) l10; chk l10 100 (if (I18 (z + 14) (Int32.toNatClampNeg l10)) = 0 then (let x22 := (l9 + 0); r_next_66 F z g1 g2 g3 g4 g5 g6 g7 g8 k x22 (l10 + 1) I18) else ((r_tiresOf F I18 z g2 g8).bind (fun q24 => let u26 := q24.1; let I27 := q24.2; if u26 ≤ l10 then (let x29 := (l9 + 0); r_next_66 F z g1 g2 g3 g4 g5 g6 g7 g8 k x29 (l10 + 1) I27) else (let x31 := (l9 + 1); r_next_66 F z g1 g2 g3 g4 g5 g6 g7 g8 k x31 (l10 + 1) I27))))))
def r_next_44 (F : Nat) (z : Nat) (g1 : Int32) (g2 : Int32) (g3 : Int32) (g4 : Int32) (g5 : Int32) : Nat → Int32 → Int32 → Int32 → (Nat → Nat → Int32) → Option (Int32 × Int32 × Int32 × (Nat → Nat → Int32))
  | 0, _, _, _, _ => none
  | k + 1, l6, l7, l8, I => if (I (z + 1) (Int32.toNatClampNeg 2)) ≤ l8 then (some (l6, l7, l8, I)) else (if g5 ≤ 0 then (some (l6, l7, l8, I)) else ((r_next_66 F z g1 g2 g3 g4 g5 l6 l7 l8 F 0 0 I).bind (fun q33 => let m35 := q33.1; let m36 := q33.2.1; let I37 := q33.2.2; (r_isAgain F I37 z).bind (fun q38 => let I40 := q38; if (g5 - m35) ≤ m35 then (let x42 := (g5 - m35); if l7 < x42 then (r_next_44 F z g1 g2 g3 g4 g5 k l8 x42 (l8 + 1) I40) else (r_next_44 F z g1 g2 g3 g4 g5 k l6 l7 (l8 + 1) I40)) else (if l7 < m35 then (r_next_44 F z g1 g2 g3 g4 g5 k l8 m35 (l8 + 1) I40) else (r_next_44 F z g1 g2 g3 g4 g5 k l6 l7 (l8 + 1) I40))))))
def r_next (F : Nat) (I : Nat → Nat → Int32) (J : Nat → Nat → Int64) (z : Nat) (v1 : Int32) (v2 : Int32) (v3 : Int32) : Option (Int32 × (Nat → Nat → Int32)) := let I1 := uI I z 0 0; (r_noRooms F I1 J z v1 v2 v3).bind (fun q3 => let u5 := q3; if u5 = 0 then ((r_laysRooms F I1 J z v1 v2 v3).bind (fun q7 => let u9 := q7.1; let I10 := q7.2; (r_keeps F I10 z).bind (fun q11 => let I13 := q11; (r_next_44 F z v1 v2 v3 u5 u9 F (-1) (-1) 0 I13).bind (fun q46 => let m48 := q46.1; let m49 := q46.2.1; let m50 := q46.2.2.1; let I51 := q46.2.2.2; some (m48, I51))))) else (some (u5, I1)))
theorem l_r_next_66 {l : Launch} {D : va_G} {E : Nat → ClassId} {B : Nat → Prop} {n F : Nat} {Q : Option Value → HT → Prop} {T : Nat → Option (Nat × Nat)} {J : Nat → Nat → Int64} {P : Nat → Nat → Option Nat} {z : Nat} {g1 : Int32} {g2 : Int32} {g3 : Int32} {g4 : Int32} {g5 : Int32} {g6 : Int32} {g7 : Int32} {g8 : Int32} (hs_z : isMd T P z)  (r : Int32 × Int32 × (Nat → Nat → Int32)) : ∀ (k : Nat) (l9 : Int32) (l10 : Int32) (I : (Nat → Nat → Int32)), r_next_66 F z g1 g2 g3 g4 g5 g6 g7 g8 k l9 l10 I = some r → V l D E B yX12_next cX12_next 11 (some .int) 8 0 0 Q 0 0 (n, T, r.2.2, J, P) 122 [(0, some (.ref z)), (1, some (.int g1)), (2, some (.int g2)), (3, some (.int g3)), (4, some (.int g4)), (5, some (.int g5)), (6, some (.int g6)), (7, some (.int g7)), (8, some (.int g8)), (9, some (.int (r.1))), (10, some (.int (r.2.1)))] [] → V l D E B yX12_next cX12_next 11 (some .int) 8 0 0 Q 0 0 (n, T, I, J, P) 66 [(0, some (.ref z)), (1, some (.int g1)), (2, some (.int g2)), (3, some (.int g3)), (4, some (.int g4)), (5, some (.int g5)), (6, some (.int g6)), (7, some (.int g7)), (8, some (.int g8)), (9, some (.int l9)), (10, some (.int l10))] [] := by
  intro k
  induction k with
  | zero =>
    intro l9 l10 I hf hk
    cases hf
  | succ k ih =>
    intro l9 l10 I hf hk
    unfold r_next_66 at hf
    refine V.iload dX12_next_66 rfl ?_
    refine V.bipush (v := 99) dX12_next_68 (by decide) ?_
    refine V.icmp_gt 122 dX12_next_70 (by decide) (fun c16 => ?_) (fun c16 => ?_)
    · rw [if_pos c16] at hf
      obtain rfl := Option.some.inj hf
      exact V.lo [(0, some (.ref z)), (1, some (.int g1)), (2, some (.int g2)), (3, some (.int g3)), (4, some (.int g4)), (5, some (.int g5)), (6, some (.int g6)), (7, some (.int g7)), (8, some (.int g8)), (9, some (.int l9)), (10, some (.int l10))] (by simp only [Subs]; repeat' first | exact trivial | constructor | rfl) hk
    · rw [if_neg c16] at hf
      refine V.aload_n dX12_next_73 rfl ?_
      refine V.getr fl_X12_13 dX12_next_74 (hs_z.1 0 (12, 0) rfl) (hs_z.2 0 1 1 rfl) (by decide) rfl ?_
      refine V.bipush (v := 41) dX12_next_77 (by decide) ?_
      refine V.iload_n dX12_next_79 rfl ?_
      refine V.iadd dX12_next_80 ?_
      refine V.iload dX12_next_81 rfl ?_
      obtain ⟨hb17, hf⟩ := chk_some hf
      refine V.iastE dX12_next_83 (hs_z.1 1 (20, 3891) rfl) hb17 (fun I18 e19 => ?_)
      rw [← e19] at hf
      try dsimp only at hf
      clear e19
      refine V.iload dX12_next_84 rfl ?_
      refine V.aload_n dX12_next_86 rfl ?_
      refine V.getr fl_X12_57 dX12_next_87 (hs_z.1 0 (12, 0) rfl) (hs_z.2 0 29 14 rfl) (by decide) rfl ?_
      refine V.iload dX12_next_90 rfl ?_
      obtain ⟨hb20, hf⟩ := chk_some hf
      refine V.zald dX12_next_92 (hs_z.1 14 (23, 100) rfl) hb20 ?_
      refine V.if_eq 112 dX12_next_93 (by decide) (fun c21 => ?_) (fun c21 => ?_)
      · rw [if_pos c21] at hf
        refine V.iconst (v := 0) dX12_next_112 (by decide) ?_
        refine V.iadd dX12_next_113 ?_
        refine V.istore dX12_next_114 (by decide) (by first | exact rfl | exact trivial) ?_
        obtain ⟨x22, e23⟩ : ∃ zz_, zz_ = (l9 + 0) := ⟨_, rfl⟩
        rw [← e23] at hf ⊢
        try dsimp only at hf
        refine V.iinc (v := (l10 + 1)) dX12_next_116 rfl rfl (by first | exact rfl | exact trivial) ?_
        refine V.goto 66 dX12_next_119 (by decide) ?_
        exact V.lo [(0, some (.ref z)), (1, some (.int g1)), (2, some (.int g2)), (3, some (.int g3)), (4, some (.int g4)), (5, some (.int g5)), (6, some (.int g6)), (7, some (.int g7)), (8, some (.int g8)), (9, some (.int x22)), (10, some (.int (l10 + 1)))] (by simp only [Subs]; repeat' first | exact trivial | constructor | rfl) (ih _ _ _ hf hk)
      · rw [if_neg c21] at hf
        refine V.aload_n dX12_next_96 rfl ?_
        refine V.iload_n dX12_next_97 rfl ?_
        refine V.iload dX12_next_98 rfl ?_
        obtain ⟨⟨u26, I27⟩, hk25, hf⟩ := bnd_some hf
        try dsimp only at hf
        refine V.inv cv_X12_251 (c_r_tiresOf hs_z hk25) dX12_next_100 (hs_z.1 0 (12, 0) rfl) (by decide) rfl rfl rfl (Nat.le_of_ble_eq_true rfl) (by decide) (by decide) (Nat.le_refl _) (Nat.le_refl _) (fun _ _ hq => ?_)
        obtain ⟨rfl, rfl⟩ := hq
        try dsimp only
        refine V.iload dX12_next_103 rfl ?_
        refine V.icmp_le 112 dX12_next_105 (by decide) (fun c28 => ?_) (fun c28 => ?_)
        · rw [if_pos c28] at hf
          refine V.iconst (v := 0) dX12_next_112 (by decide) ?_
          refine V.iadd dX12_next_113 ?_
          refine V.istore dX12_next_114 (by decide) (by first | exact rfl | exact trivial) ?_
          obtain ⟨x29, e30⟩ : ∃ zz_, zz_ = (l9 + 0) := ⟨_, rfl⟩
          rw [← e30] at hf ⊢
          try dsimp only at hf
          refine V.iinc (v := (l10 + 1)) dX12_next_116 rfl rfl (by first | exact rfl | exact trivial) ?_
          refine V.goto 66 dX12_next_119 (by decide) ?_
          exact V.lo [(0, some (.ref z)), (1, some (.int g1)), (2, some (.int g2)), (3, some (.int g3)), (4, some (.int g4)), (5, some (.int g5)), (6, some (.int g6)), (7, some (.int g7)), (8, some (.int g8)), (9, some (.int x29)), (10, some (.int (l10 + 1)))] (by simp only [Subs]; repeat' first | exact trivial | constructor | rfl) (ih _ _ _ hf hk)
        · rw [if_neg c28] at hf
          refine V.iconst (v := 1) dX12_next_108 (by decide) ?_
          refine V.goto 113 dX12_next_109 (by decide) ?_
          refine V.iadd dX12_next_113 ?_
          refine V.istore dX12_next_114 (by decide) (by first | exact rfl | exact trivial) ?_
          obtain ⟨x31, e32⟩ : ∃ zz_, zz_ = (l9 + 1) := ⟨_, rfl⟩
          rw [← e32] at hf ⊢
          try dsimp only at hf
          refine V.iinc (v := (l10 + 1)) dX12_next_116 rfl rfl (by first | exact rfl | exact trivial) ?_
          refine V.goto 66 dX12_next_119 (by decide) ?_
          exact V.lo [(0, some (.ref z)), (1, some (.int g1)), (2, some (.int g2)), (3, some (.int g3)), (4, some (.int g4)), (5, some (.int g5)), (6, some (.int g6)), (7, some (.int g7)), (8, some (.int g8)), (9, some (.int x31)), (10, some (.int (l10 + 1)))] (by simp only [Subs]; repeat' first | exact trivial | constructor | rfl) (ih _ _ _ hf hk)
theorem l_r_next_44 {l : Launch} {D : va_G} {E : Nat → ClassId} {B : Nat → Prop} {n F : Nat} {Q : Option Value → HT → Prop} {T : Nat → Option (Nat × Nat)} {J : Nat → Nat → Int64} {P : Nat → Nat → Option Nat} {z : Nat} {g1 : Int32} {g2 : Int32} {g3 : Int32} {g4 : Int32} {g5 : Int32} (hs_z : isMd T P z)  (r : Int32 × Int32 × Int32 × (Nat → Nat → Int32)) : ∀ (k : Nat) (l6 : Int32) (l7 : Int32) (l8 : Int32) (I : (Nat → Nat → Int32)), r_next_44 F z g1 g2 g3 g4 g5 k l6 l7 l8 I = some r → V l D E B yX12_next cX12_next 11 (some .int) 8 0 0 Q 0 0 (n, T, r.2.2.2, J, P) 172 [(0, some (.ref z)), (1, some (.int g1)), (2, some (.int g2)), (3, some (.int g3)), (4, some (.int g4)), (5, some (.int g5)), (6, some (.int (r.1))), (7, some (.int (r.2.1))), (8, some (.int (r.2.2.1)))] [] → V l D E B yX12_next cX12_next 11 (some .int) 8 0 0 Q 0 0 (n, T, I, J, P) 44 [(0, some (.ref z)), (1, some (.int g1)), (2, some (.int g2)), (3, some (.int g3)), (4, some (.int g4)), (5, some (.int g5)), (6, some (.int l6)), (7, some (.int l7)), (8, some (.int l8))] [] := by
  intro k
  induction k with
  | zero =>
    intro l6 l7 l8 I hf hk
    cases hf
  | succ k ih =>
    intro l6 l7 l8 I hf hk
    unfold r_next_44 at hf
    refine V.iload dX12_next_44 rfl ?_
    refine V.aload_n dX12_next_46 rfl ?_
    refine V.getr fl_X12_13 dX12_next_47 (hs_z.1 0 (12, 0) rfl) (hs_z.2 0 1 1 rfl) (by decide) rfl ?_
    refine V.iconst (v := 2) dX12_next_50 (by decide) ?_
    refine V.iald dX12_next_51 (hs_z.1 1 (20, 3891) rfl) (vp_lit (by decide)) ?_
    refine V.icmp_ge 172 dX12_next_52 (by decide) (fun c14 => ?_) (fun c14 => ?_)
    · rw [if_pos c14] at hf
      obtain rfl := Option.some.inj hf
      exact V.lo [(0, some (.ref z)), (1, some (.int g1)), (2, some (.int g2)), (3, some (.int g3)), (4, some (.int g4)), (5, some (.int g5)), (6, some (.int l6)), (7, some (.int l7)), (8, some (.int l8))] (by simp only [Subs]; repeat' first | exact trivial | constructor | rfl) hk
    · rw [if_neg c14] at hf
      refine V.iload dX12_next_55 rfl ?_
      refine V.if_le 172 dX12_next_57 (by decide) (fun c15 => ?_) (fun c15 => ?_)
      · rw [if_pos c15] at hf
        obtain rfl := Option.some.inj hf
        exact V.lo [(0, some (.ref z)), (1, some (.int g1)), (2, some (.int g2)), (3, some (.int g3)), (4, some (.int g4)), (5, some (.int g5)), (6, some (.int l6)), (7, some (.int l7)), (8, some (.int l8))] (by simp only [Subs]; repeat' first | exact trivial | constructor | rfl) hk
      · rw [if_neg c15] at hf
        refine V.iconst (v := 0) dX12_next_60 (by decide) ?_
        refine V.istore dX12_next_61 (by decide) (by first | exact rfl | exact trivial) ?_
        refine V.iconst (v := 0) dX12_next_63 (by decide) ?_
        refine V.istore dX12_next_64 (by decide) (by first | exact rfl | exact trivial) ?_
        obtain ⟨⟨m35, m36, I37⟩, hk34, hf⟩ := bnd_some hf
        try dsimp only at hf
        refine V.lo [(0, some (.ref z)), (1, some (.int g1)), (2, some (.int g2)), (3, some (.int g3)), (4, some (.int g4)), (5, some (.int g5)), (6, some (.int l6)), (7, some (.int l7)), (8, some (.int l8)), (9, some (.int 0)), (10, some (.int 0))] (by simp only [Subs]; repeat' first | exact trivial | constructor | rfl) (l_r_next_66 hs_z _ F _ _ _ hk34 ?_)
        try dsimp only
        refine V.aload_n dX12_next_122 rfl ?_
        obtain ⟨I40, hk39, hf⟩ := bnd_some hf
        try dsimp only at hf
        refine V.inv cv_X12_327 (c_r_isAgain hs_z hk39) dX12_next_123 (hs_z.1 0 (12, 0) rfl) (by decide) rfl rfl rfl (Nat.le_of_ble_eq_true rfl) (by decide) (by decide) (Nat.le_refl _) (Nat.le_refl _) (fun _ _ hq => ?_)
        obtain ⟨rfl, rfl⟩ := hq
        refine V.iload dX12_next_126 rfl ?_
        refine V.iload dX12_next_128 rfl ?_
        refine V.iload dX12_next_130 rfl ?_
        refine V.isub dX12_next_132 ?_
        refine V.icmp_ge 141 dX12_next_133 (by decide) (fun c41 => ?_) (fun c41 => ?_)
        · rw [if_pos c41] at hf
          refine V.iload dX12_next_141 rfl ?_
          refine V.iload dX12_next_143 rfl ?_
          refine V.isub dX12_next_145 ?_
          refine V.istore dX12_next_146 (by decide) (by first | exact rfl | exact trivial) ?_
          obtain ⟨x42, e43⟩ : ∃ zz_, zz_ = (g5 - m35) := ⟨_, rfl⟩
          rw [← e43] at hf ⊢
          try dsimp only at hf
          refine V.iload dX12_next_148 rfl ?_
          refine V.iload dX12_next_150 rfl ?_
          refine V.icmp_gt 158 dX12_next_152 (by decide) (fun c44 => ?_) (fun c44 => ?_)
          · rw [if_pos c44] at hf
            refine V.iload dX12_next_158 rfl ?_
            refine V.istore dX12_next_160 (by decide) (by first | exact rfl | exact trivial) ?_
            refine V.iload dX12_next_162 rfl ?_
            refine V.istore dX12_next_164 (by decide) (by first | exact rfl | exact trivial) ?_
            refine V.iinc (v := (l8 + 1)) dX12_next_166 rfl rfl (by first | exact rfl | exact trivial) ?_
            refine V.goto 44 dX12_next_169 (by decide) ?_
            exact V.lo [(0, some (.ref z)), (1, some (.int g1)), (2, some (.int g2)), (3, some (.int g3)), (4, some (.int g4)), (5, some (.int g5)), (6, some (.int l8)), (7, some (.int x42)), (8, some (.int (l8 + 1)))] (by simp only [Subs]; repeat' first | exact trivial | constructor | rfl) (ih _ _ _ _ hf hk)
          · rw [if_neg c44] at hf
            refine V.goto 166 dX12_next_155 (by decide) ?_
            refine V.iinc (v := (l8 + 1)) dX12_next_166 rfl rfl (by first | exact rfl | exact trivial) ?_
            refine V.goto 44 dX12_next_169 (by decide) ?_
            exact V.lo [(0, some (.ref z)), (1, some (.int g1)), (2, some (.int g2)), (3, some (.int g3)), (4, some (.int g4)), (5, some (.int g5)), (6, some (.int l6)), (7, some (.int l7)), (8, some (.int (l8 + 1)))] (by simp only [Subs]; repeat' first | exact trivial | constructor | rfl) (ih _ _ _ _ hf hk)
        · rw [if_neg c41] at hf
          refine V.iload dX12_next_136 rfl ?_
          refine V.goto 146 dX12_next_138 (by decide) ?_
          refine V.istore dX12_next_146 (by decide) (by first | exact rfl | exact trivial) ?_
          refine V.iload dX12_next_148 rfl ?_
          refine V.iload dX12_next_150 rfl ?_
          refine V.icmp_gt 158 dX12_next_152 (by decide) (fun c45 => ?_) (fun c45 => ?_)
          · rw [if_pos c45] at hf
            refine V.iload dX12_next_158 rfl ?_
            refine V.istore dX12_next_160 (by decide) (by first | exact rfl | exact trivial) ?_
            refine V.iload dX12_next_162 rfl ?_
            refine V.istore dX12_next_164 (by decide) (by first | exact rfl | exact trivial) ?_
            refine V.iinc (v := (l8 + 1)) dX12_next_166 rfl rfl (by first | exact rfl | exact trivial) ?_
            refine V.goto 44 dX12_next_169 (by decide) ?_
            exact V.lo [(0, some (.ref z)), (1, some (.int g1)), (2, some (.int g2)), (3, some (.int g3)), (4, some (.int g4)), (5, some (.int g5)), (6, some (.int l8)), (7, some (.int m35)), (8, some (.int (l8 + 1)))] (by simp only [Subs]; repeat' first | exact trivial | constructor | rfl) (ih _ _ _ _ hf hk)
          · rw [if_neg c45] at hf
            refine V.goto 166 dX12_next_155 (by decide) ?_
            refine V.iinc (v := (l8 + 1)) dX12_next_166 rfl rfl (by first | exact rfl | exact trivial) ?_
            refine V.goto 44 dX12_next_169 (by decide) ?_
            exact V.lo [(0, some (.ref z)), (1, some (.int g1)), (2, some (.int g2)), (3, some (.int g3)), (4, some (.int g4)), (5, some (.int g5)), (6, some (.int l6)), (7, some (.int l7)), (8, some (.int (l8 + 1)))] (by simp only [Subs]; repeat' first | exact trivial | constructor | rfl) (ih _ _ _ _ hf hk)
theorem c_r_next {l : Launch} {D : va_G} {E : Nat → ClassId} {B : Nat → Prop} {n F : Nat} {T : Nat → Option (Nat × Nat)} {I : Nat → Nat → Int32} {J : Nat → Nat → Int64} {P : Nat → Nat → Option Nat} {z : Nat} {v1 : Int32} {v2 : Int32} {v3 : Int32} {r : Int32 × (Nat → Nat → Int32)} (hs_z : isMd T P z) (hf : r_next F I J z v1 v2 v3 = some r) : Ct l D E B yX12_next cX12_next 11 (some .int) 8 0 0 [.ref z, .int v1, .int v2, .int v3] (n, T, I, J, P) (Ret (some (.int r.1)) (n, T, r.2, J, P)) := by
  unfold r_next at hf
  refine Ct.ofV (by decide) (Nat.le_of_ble_eq_true rfl) ?_
  refine V.aload_n dX12_next_0 rfl ?_
  refine V.iconst (v := 0) dX12_next_1 (by decide) ?_
  refine V.putiE fl_X12_1 dX12_next_2 (hs_z.1 0 (12, 0) rfl) (by decide) (fun h => by cases h) rfl rfl rfl (Nat.le_of_ble_eq_true rfl) (fun I1 e2 => ?_)
  rw [← e2] at hf
  try dsimp only at hf
  clear e2
  refine V.aload_n dX12_next_5 rfl ?_
  refine V.iload_n dX12_next_6 rfl ?_
  refine V.iload_n dX12_next_7 rfl ?_
  refine V.iload_n dX12_next_8 rfl ?_
  obtain ⟨u5, hk4, hf⟩ := bnd_some hf
  try dsimp only at hf
  refine V.inv cv_X12_411 (c_r_noRooms hs_z hk4) dX12_next_9 (hs_z.1 0 (12, 0) rfl) (by decide) rfl rfl rfl (Nat.le_of_ble_eq_true rfl) (by decide) (by decide) (Nat.le_refl _) (Nat.le_refl _) (fun _ _ hq => ?_)
  obtain ⟨rfl, rfl⟩ := hq
  refine V.istore dX12_next_12 (by decide) (by first | exact rfl | exact trivial) ?_
  refine V.iload dX12_next_14 rfl ?_
  refine V.if_eq 22 dX12_next_16 (by decide) (fun c6 => ?_) (fun c6 => ?_)
  · rw [if_pos c6] at hf
    refine V.aload_n dX12_next_22 rfl ?_
    refine V.iload_n dX12_next_23 rfl ?_
    refine V.iload_n dX12_next_24 rfl ?_
    refine V.iload_n dX12_next_25 rfl ?_
    obtain ⟨⟨u9, I10⟩, hk8, hf⟩ := bnd_some hf
    try dsimp only at hf
    refine V.inv cv_X12_414 (c_r_laysRooms hs_z hk8) dX12_next_26 (hs_z.1 0 (12, 0) rfl) (by decide) rfl rfl rfl (Nat.le_of_ble_eq_true rfl) (by decide) (by decide) (Nat.le_refl _) (Nat.le_refl _) (fun _ _ hq => ?_)
    obtain ⟨rfl, rfl⟩ := hq
    try dsimp only
    refine V.istore dX12_next_29 (by decide) (by first | exact rfl | exact trivial) ?_
    refine V.aload_n dX12_next_31 rfl ?_
    obtain ⟨I13, hk12, hf⟩ := bnd_some hf
    try dsimp only at hf
    refine V.inv cv_X12_264 (c_r_keeps hs_z hk12) dX12_next_32 (hs_z.1 0 (12, 0) rfl) (by decide) rfl rfl rfl (Nat.le_of_ble_eq_true rfl) (by decide) (by decide) (Nat.le_refl _) (Nat.le_refl _) (fun _ _ hq => ?_)
    obtain ⟨rfl, rfl⟩ := hq
    refine V.iconst (v := -1) dX12_next_35 (by decide) ?_
    refine V.istore dX12_next_36 (by decide) (by first | exact rfl | exact trivial) ?_
    refine V.iconst (v := -1) dX12_next_38 (by decide) ?_
    refine V.istore dX12_next_39 (by decide) (by first | exact rfl | exact trivial) ?_
    refine V.iconst (v := 0) dX12_next_41 (by decide) ?_
    refine V.istore dX12_next_42 (by decide) (by first | exact rfl | exact trivial) ?_
    obtain ⟨⟨m48, m49, m50, I51⟩, hk47, hf⟩ := bnd_some hf
    try dsimp only at hf
    refine V.lo [(0, some (.ref z)), (1, some (.int v1)), (2, some (.int v2)), (3, some (.int v3)), (4, some (.int u5)), (5, some (.int u9)), (6, some (.int (-1))), (7, some (.int (-1))), (8, some (.int 0))] (by simp only [Subs]; repeat' first | exact trivial | constructor | rfl) (l_r_next_44 hs_z _ F _ _ _ _ hk47 ?_)
    try dsimp only
    refine V.iload dX12_next_172 rfl ?_
    obtain rfl := Option.some.inj hf
    exact V.iret dX12_next_174 rfl (Nat.le_refl _) (Nat.le_refl _) ⟨rfl, rfl⟩
  · rw [if_neg c6] at hf
    refine V.iload dX12_next_19 rfl ?_
    obtain rfl := Option.some.inj hf
    exact V.iret dX12_next_21 rfl (Nat.le_refl _) (Nat.le_refl _) ⟨rfl, rfl⟩
theorem dX12_laysWait_0 : decode cX12_laysWait 0 = .ok (.aload_n 0, 1) := by decide +kernel
theorem dX12_laysWait_1 : decode cX12_laysWait 1 = .ok (.getfield 13, 3) := by decide +kernel
theorem dX12_laysWait_4 : decode cX12_laysWait 4 = .ok (.bipush 32, 2) := by decide +kernel
theorem dX12_laysWait_6 : decode cX12_laysWait 6 = .ok (.iconst 1, 1) := by decide +kernel
theorem dX12_laysWait_7 : decode cX12_laysWait 7 = .ok (.iload_n 1, 1) := by decide +kernel
theorem dX12_laysWait_8 : decode cX12_laysWait 8 = .ok (.ishl, 1) := by decide +kernel
theorem dX12_laysWait_9 : decode cX12_laysWait 9 = .ok (.iconst 1, 1) := by decide +kernel
theorem dX12_laysWait_10 : decode cX12_laysWait 10 = .ok (.iload_n 2, 1) := by decide +kernel
theorem dX12_laysWait_11 : decode cX12_laysWait 11 = .ok (.ishl, 1) := by decide +kernel
theorem dX12_laysWait_12 : decode cX12_laysWait 12 = .ok (.ior, 1) := by decide +kernel
theorem dX12_laysWait_13 : decode cX12_laysWait 13 = .ok (.iastore, 1) := by decide +kernel
theorem dX12_laysWait_14 : decode cX12_laysWait 14 = .ok (.aload_n 0, 1) := by decide +kernel
theorem dX12_laysWait_15 : decode cX12_laysWait 15 = .ok (.getfield 13, 3) := by decide +kernel
theorem dX12_laysWait_18 : decode cX12_laysWait 18 = .ok (.bipush 47, 2) := by decide +kernel
theorem dX12_laysWait_20 : decode cX12_laysWait 20 = .ok (.iload_n 1, 1) := by decide +kernel
theorem dX12_laysWait_21 : decode cX12_laysWait 21 = .ok (.iadd, 1) := by decide +kernel
theorem dX12_laysWait_22 : decode cX12_laysWait 22 = .ok (.iconst 0, 1) := by decide +kernel
theorem dX12_laysWait_23 : decode cX12_laysWait 23 = .ok (.iastore, 1) := by decide +kernel
theorem dX12_laysWait_24 : decode cX12_laysWait 24 = .ok (.aload_n 0, 1) := by decide +kernel
theorem dX12_laysWait_25 : decode cX12_laysWait 25 = .ok (.getfield 13, 3) := by decide +kernel
theorem dX12_laysWait_28 : decode cX12_laysWait 28 = .ok (.bipush 47, 2) := by decide +kernel
theorem dX12_laysWait_30 : decode cX12_laysWait 30 = .ok (.iload_n 2, 1) := by decide +kernel
theorem dX12_laysWait_31 : decode cX12_laysWait 31 = .ok (.iadd, 1) := by decide +kernel
theorem dX12_laysWait_32 : decode cX12_laysWait 32 = .ok (.iconst 0, 1) := by decide +kernel
theorem dX12_laysWait_33 : decode cX12_laysWait 33 = .ok (.iastore, 1) := by decide +kernel
theorem dX12_laysWait_34 : decode cX12_laysWait 34 = .ok (.iconst 0, 1) := by decide +kernel
theorem dX12_laysWait_35 : decode cX12_laysWait 35 = .ok (.istore 6, 2) := by decide +kernel
theorem dX12_laysWait_37 : decode cX12_laysWait 37 = .ok (.iconst 0, 1) := by decide +kernel
theorem dX12_laysWait_38 : decode cX12_laysWait 38 = .ok (.istore 7, 2) := by decide +kernel
theorem dX12_laysWait_40 : decode cX12_laysWait 40 = .ok (.iconst 0, 1) := by decide +kernel
theorem dX12_laysWait_41 : decode cX12_laysWait 41 = .ok (.istore 8, 2) := by decide +kernel
theorem dX12_laysWait_43 : decode cX12_laysWait 43 = .ok (.iload 8, 2) := by decide +kernel
theorem dX12_laysWait_45 : decode cX12_laysWait 45 = .ok (.iload 4, 2) := by decide +kernel
theorem dX12_laysWait_47 : decode cX12_laysWait 47 = .ok (.if_icmp .ne 16, 3) := by decide +kernel
theorem dX12_laysWait_50 : decode cX12_laysWait 50 = .ok (.aload_n 0, 1) := by decide +kernel
theorem dX12_laysWait_51 : decode cX12_laysWait 51 = .ok (.iload_n 1, 1) := by decide +kernel
theorem dX12_laysWait_52 : decode cX12_laysWait 52 = .ok (.invokevirtual 218, 3) := by decide +kernel
theorem dX12_laysWait_55 : decode cX12_laysWait 55 = .ok (.ifCond .eq 8, 3) := by decide +kernel
theorem dX12_laysWait_58 : decode cX12_laysWait 58 = .ok (.aload_n 0, 1) := by decide +kernel
theorem dX12_laysWait_59 : decode cX12_laysWait 59 = .ok (.iload_n 1, 1) := by decide +kernel
theorem dX12_laysWait_60 : decode cX12_laysWait 60 = .ok (.invokevirtual 277, 3) := by decide +kernel
theorem dX12_laysWait_63 : decode cX12_laysWait 63 = .ok (.iload 8, 2) := by decide +kernel
theorem dX12_laysWait_65 : decode cX12_laysWait 65 = .ok (.iload 5, 2) := by decide +kernel
theorem dX12_laysWait_67 : decode cX12_laysWait 67 = .ok (.if_icmp .ne 16, 3) := by decide +kernel
theorem dX12_laysWait_70 : decode cX12_laysWait 70 = .ok (.aload_n 0, 1) := by decide +kernel
theorem dX12_laysWait_71 : decode cX12_laysWait 71 = .ok (.iload_n 2, 1) := by decide +kernel
theorem dX12_laysWait_72 : decode cX12_laysWait 72 = .ok (.invokevirtual 218, 3) := by decide +kernel
theorem dX12_laysWait_75 : decode cX12_laysWait 75 = .ok (.ifCond .eq 8, 3) := by decide +kernel
theorem dX12_laysWait_78 : decode cX12_laysWait 78 = .ok (.aload_n 0, 1) := by decide +kernel
theorem dX12_laysWait_79 : decode cX12_laysWait 79 = .ok (.iload_n 2, 1) := by decide +kernel
theorem dX12_laysWait_80 : decode cX12_laysWait 80 = .ok (.invokevirtual 277, 3) := by decide +kernel
theorem dX12_laysWait_83 : decode cX12_laysWait 83 = .ok (.aload_n 0, 1) := by decide +kernel
theorem dX12_laysWait_84 : decode cX12_laysWait 84 = .ok (.getfield 13, 3) := by decide +kernel
theorem dX12_laysWait_87 : decode cX12_laysWait 87 = .ok (.bipush 32, 2) := by decide +kernel
theorem dX12_laysWait_89 : decode cX12_laysWait 89 = .ok (.iaload, 1) := by decide +kernel
theorem dX12_laysWait_90 : decode cX12_laysWait 90 = .ok (.ifCond .ne 6, 3) := by decide +kernel
theorem dX12_laysWait_93 : decode cX12_laysWait 93 = .ok (.goto 51, 3) := by decide +kernel
theorem dX12_laysWait_96 : decode cX12_laysWait 96 = .ok (.aload_n 0, 1) := by decide +kernel
theorem dX12_laysWait_97 : decode cX12_laysWait 97 = .ok (.iload_n 3, 1) := by decide +kernel
theorem dX12_laysWait_98 : decode cX12_laysWait 98 = .ok (.invokevirtual 267, 3) := by decide +kernel
theorem dX12_laysWait_101 : decode cX12_laysWait 101 = .ok (.pop, 1) := by decide +kernel
theorem dX12_laysWait_102 : decode cX12_laysWait 102 = .ok (.iload 6, 2) := by decide +kernel
theorem dX12_laysWait_104 : decode cX12_laysWait 104 = .ok (.aload_n 0, 1) := by decide +kernel
theorem dX12_laysWait_105 : decode cX12_laysWait 105 = .ok (.iload_n 1, 1) := by decide +kernel
theorem dX12_laysWait_106 : decode cX12_laysWait 106 = .ok (.invokevirtual 218, 3) := by decide +kernel
theorem dX12_laysWait_109 : decode cX12_laysWait 109 = .ok (.ifCond .eq 7, 3) := by decide +kernel
theorem dX12_laysWait_112 : decode cX12_laysWait 112 = .ok (.iconst 1, 1) := by decide +kernel
theorem dX12_laysWait_113 : decode cX12_laysWait 113 = .ok (.goto 4, 3) := by decide +kernel
theorem dX12_laysWait_116 : decode cX12_laysWait 116 = .ok (.iconst 0, 1) := by decide +kernel
theorem dX12_laysWait_117 : decode cX12_laysWait 117 = .ok (.iadd, 1) := by decide +kernel
theorem dX12_laysWait_118 : decode cX12_laysWait 118 = .ok (.istore 6, 2) := by decide +kernel
theorem dX12_laysWait_120 : decode cX12_laysWait 120 = .ok (.iload 7, 2) := by decide +kernel
theorem dX12_laysWait_122 : decode cX12_laysWait 122 = .ok (.aload_n 0, 1) := by decide +kernel
theorem dX12_laysWait_123 : decode cX12_laysWait 123 = .ok (.iload_n 2, 1) := by decide +kernel
theorem dX12_laysWait_124 : decode cX12_laysWait 124 = .ok (.invokevirtual 218, 3) := by decide +kernel
theorem dX12_laysWait_127 : decode cX12_laysWait 127 = .ok (.ifCond .eq 7, 3) := by decide +kernel
theorem dX12_laysWait_130 : decode cX12_laysWait 130 = .ok (.iconst 1, 1) := by decide +kernel
theorem dX12_laysWait_131 : decode cX12_laysWait 131 = .ok (.goto 4, 3) := by decide +kernel
theorem dX12_laysWait_134 : decode cX12_laysWait 134 = .ok (.iconst 0, 1) := by decide +kernel
theorem dX12_laysWait_135 : decode cX12_laysWait 135 = .ok (.iadd, 1) := by decide +kernel
theorem dX12_laysWait_136 : decode cX12_laysWait 136 = .ok (.istore 7, 2) := by decide +kernel
theorem dX12_laysWait_138 : decode cX12_laysWait 138 = .ok (.iinc 8 1, 3) := by decide +kernel
theorem dX12_laysWait_141 : decode cX12_laysWait 141 = .ok (.goto (-98), 3) := by decide +kernel
theorem dX12_laysWait_144 : decode cX12_laysWait 144 = .ok (.aload_n 0, 1) := by decide +kernel
theorem dX12_laysWait_145 : decode cX12_laysWait 145 = .ok (.getfield 60, 3) := by decide +kernel
theorem dX12_laysWait_148 : decode cX12_laysWait 148 = .ok (.bipush 21, 2) := by decide +kernel
theorem dX12_laysWait_150 : decode cX12_laysWait 150 = .ok (.iload 4, 2) := by decide +kernel
theorem dX12_laysWait_152 : decode cX12_laysWait 152 = .ok (.imul, 1) := by decide +kernel
theorem dX12_laysWait_153 : decode cX12_laysWait 153 = .ok (.iload 5, 2) := by decide +kernel
theorem dX12_laysWait_155 : decode cX12_laysWait 155 = .ok (.iadd, 1) := by decide +kernel
theorem dX12_laysWait_156 : decode cX12_laysWait 156 = .ok (.aload_n 0, 1) := by decide +kernel
theorem dX12_laysWait_157 : decode cX12_laysWait 157 = .ok (.iload 6, 2) := by decide +kernel
theorem dX12_laysWait_159 : decode cX12_laysWait 159 = .ok (.iload 7, 2) := by decide +kernel
theorem dX12_laysWait_161 : decode cX12_laysWait 161 = .ok (.if_icmp .le 7, 3) := by decide +kernel
theorem dX12_laysWait_164 : decode cX12_laysWait 164 = .ok (.iconst 0, 1) := by decide +kernel
theorem dX12_laysWait_165 : decode cX12_laysWait 165 = .ok (.goto 4, 3) := by decide +kernel
theorem dX12_laysWait_168 : decode cX12_laysWait 168 = .ok (.iconst 1, 1) := by decide +kernel
theorem dX12_laysWait_169 : decode cX12_laysWait 169 = .ok (.invokevirtual 358, 3) := by decide +kernel
theorem dX12_laysWait_172 : decode cX12_laysWait 172 = .ok (.aload_n 0, 1) := by decide +kernel
theorem dX12_laysWait_173 : decode cX12_laysWait 173 = .ok (.getfield 13, 3) := by decide +kernel
theorem dX12_laysWait_176 : decode cX12_laysWait 176 = .ok (.bipush 47, 2) := by decide +kernel
theorem dX12_laysWait_178 : decode cX12_laysWait 178 = .ok (.iload_n 1, 1) := by decide +kernel
theorem dX12_laysWait_179 : decode cX12_laysWait 179 = .ok (.iadd, 1) := by decide +kernel
theorem dX12_laysWait_180 : decode cX12_laysWait 180 = .ok (.iaload, 1) := by decide +kernel
theorem dX12_laysWait_181 : decode cX12_laysWait 181 = .ok (.isub, 1) := by decide +kernel
theorem dX12_laysWait_182 : decode cX12_laysWait 182 = .ok (.iastore, 1) := by decide +kernel
theorem dX12_laysWait_183 : decode cX12_laysWait 183 = .ok (.aload_n 0, 1) := by decide +kernel
theorem dX12_laysWait_184 : decode cX12_laysWait 184 = .ok (.getfield 63, 3) := by decide +kernel
theorem dX12_laysWait_187 : decode cX12_laysWait 187 = .ok (.bipush 21, 2) := by decide +kernel
theorem dX12_laysWait_189 : decode cX12_laysWait 189 = .ok (.iload 4, 2) := by decide +kernel
theorem dX12_laysWait_191 : decode cX12_laysWait 191 = .ok (.imul, 1) := by decide +kernel
theorem dX12_laysWait_192 : decode cX12_laysWait 192 = .ok (.iload 5, 2) := by decide +kernel
theorem dX12_laysWait_194 : decode cX12_laysWait 194 = .ok (.iadd, 1) := by decide +kernel
theorem dX12_laysWait_195 : decode cX12_laysWait 195 = .ok (.aload_n 0, 1) := by decide +kernel
theorem dX12_laysWait_196 : decode cX12_laysWait 196 = .ok (.iload 7, 2) := by decide +kernel
theorem dX12_laysWait_198 : decode cX12_laysWait 198 = .ok (.iload 6, 2) := by decide +kernel
theorem dX12_laysWait_200 : decode cX12_laysWait 200 = .ok (.if_icmp .le 7, 3) := by decide +kernel
theorem dX12_laysWait_203 : decode cX12_laysWait 203 = .ok (.iconst 0, 1) := by decide +kernel
theorem dX12_laysWait_204 : decode cX12_laysWait 204 = .ok (.goto 4, 3) := by decide +kernel
theorem dX12_laysWait_207 : decode cX12_laysWait 207 = .ok (.iconst 1, 1) := by decide +kernel
theorem dX12_laysWait_208 : decode cX12_laysWait 208 = .ok (.invokevirtual 358, 3) := by decide +kernel
theorem dX12_laysWait_211 : decode cX12_laysWait 211 = .ok (.aload_n 0, 1) := by decide +kernel
theorem dX12_laysWait_212 : decode cX12_laysWait 212 = .ok (.getfield 13, 3) := by decide +kernel
theorem dX12_laysWait_215 : decode cX12_laysWait 215 = .ok (.bipush 47, 2) := by decide +kernel
theorem dX12_laysWait_217 : decode cX12_laysWait 217 = .ok (.iload_n 2, 1) := by decide +kernel
theorem dX12_laysWait_218 : decode cX12_laysWait 218 = .ok (.iadd, 1) := by decide +kernel
theorem dX12_laysWait_219 : decode cX12_laysWait 219 = .ok (.iaload, 1) := by decide +kernel
theorem dX12_laysWait_220 : decode cX12_laysWait 220 = .ok (.isub, 1) := by decide +kernel
theorem dX12_laysWait_221 : decode cX12_laysWait 221 = .ok (.iastore, 1) := by decide +kernel
theorem dX12_laysWait_222 : decode cX12_laysWait 222 = .ok (.aload_n 0, 1) := by decide +kernel
theorem dX12_laysWait_223 : decode cX12_laysWait 223 = .ok (.invokevirtual 327, 3) := by decide +kernel
theorem dX12_laysWait_226 : decode cX12_laysWait 226 = .ok (.return_, 1) := by decide +kernel
def r_laysWait_43 (F : Nat) (z : Nat) (g1 : Int32) (g2 : Int32) (g3 : Int32) (g4 : Int32) (g5 : Int32) : Nat → Int32 → Int32 → Int32 → (Nat → Nat → Int32) → Option (Int32 × Int32 × Int32 × (Nat → Nat → Int32))
  | 0, _, _, _, _ => none
  | k + 1, l6, l7, l8, I => if l8 = g4 then ((r_isUp I z g1).bind (fun q105 => let u107 := q105; if u107 = 0 then (if l8 = g5 then ((r_isUp I z g2).bind (fun q139 => let u141 := q139; if u141 = 0 then (if (I (z + 1) (Int32.toNatClampNeg 32)) = 0 then (some (l6, l7, l8, I)) else ((r_plays F I z g3).bind (fun q144 => let u146 := q144.1; let I147 := q144.2; (r_isUp I147 z g1).bind (fun q148 => let u150 := q148; if u150 = 0 then (let x152 := (l6 + 0); (r_isUp I147 z g2).bind (fun q154 => let u156 := q154; if u156 = 0 then (let x158 := (l7 + 0); r_laysWait_43 F z g1 g2 g3 g4 g5 k x152 x158 (l8 + 1) I147) else (let x160 := (l7 + 1); r_laysWait_43 F z g1 g2 g3 g4 g5 k x152 x160 (l8 + 1) I147))) else (let x162 := (l6 + 1); (r_isUp I147 z g2).bind (fun q164 => let u166 := q164; if u166 = 0 then (let x168 := (l7 + 0); r_laysWait_43 F z g1 g2 g3 g4 g5 k x162 x168 (l8 + 1) I147) else (let x170 := (l7 + 1); r_laysWait_43 F z g1 g2 g3 g4 g5 k x162 x170 (l8 + 1) I147))))))) else ((r_sitsOwn I z g2).bind (fun q172 => let I174 := q172; if (I174 (z + 1) (Int32.toNatClampNeg 32)) = 0 then (some (l6, l7, l8, I174)) else ((r_plays F I174 z g3).bind (fun q176 => let u178 := q176.1; let I179 := q176.2; (r_isUp I179 z g1).bind (fun q180 => let u182 := q180; if u182 = 0 then (let x184 := (l6 + 0); (r_isUp I179 z g2).bind (fun q186 => let u188 := q186; if u188 = 0 then (let x190 := (l7 + 0); r_laysWait_43 F z g1 g2 g3 g4 g5 k x184 x190 (l8 + 1) I179) else (let x192 := (l7 + 1); r_laysWait_43 F z g1 g2 g3 g4 g5 k x184 x192 (l8 + 1) I179))) else (let x194 := (l6 + 1); (r_isUp I179 z g2).bind (fun q196 => let u198 := q196; if u198 = 0 then (let x200 := (l7 + 0); r_laysWait_43 F z g1 g2 g3 g4 g5 k x194 x200 (l8 + 1) I179) else (let x202 := (l7 + 1); r_laysWait_43 F z g1 g2 g3 g4 g5 k x194 x202 (l8 + 1) I179)))))))))) else (if (I (z + 1) (Int32.toNatClampNeg 32)) = 0 then (some (l6, l7, l8, I)) else ((r_plays F I z g3).bind (fun q111 => let u113 := q111.1; let I114 := q111.2; (r_isUp I114 z g1).bind (fun q115 => let u117 := q115; if u117 = 0 then (let x119 := (l6 + 0); (r_isUp I114 z g2).bind (fun q121 => let u123 := q121; if u123 = 0 then (let x125 := (l7 + 0); r_laysWait_43 F z g1 g2 g3 g4 g5 k x119 x125 (l8 + 1) I114) else (let x127 := (l7 + 1); r_laysWait_43 F z g1 g2 g3 g4 g5 k x119 x127 (l8 + 1) I114))) else (let x129 := (l6 + 1); (r_isUp I114 z g2).bind (fun q131 => let u133 := q131; if u133 = 0 then (let x135 := (l7 + 0); r_laysWait_43 F z g1 g2 g3 g4 g5 k x129 x135 (l8 + 1) I114) else (let x137 := (l7 + 1); r_laysWait_43 F z g1 g2 g3 g4 g5 k x129 x137 (l8 + 1) I114)))))))) else ((r_sitsOwn I z g1).bind (fun q204 => let I206 := q204; if l8 = g5 then ((r_isUp I206 z g2).bind (fun q237 => let u239 := q237; if u239 = 0 then (if (I206 (z + 1) (Int32.toNatClampNeg 32)) = 0 then (some (l6, l7, l8, I206)) else ((r_plays F I206 z g3).bind (fun q242 => let u244 := q242.1; let I245 := q242.2; (r_isUp I245 z g1).bind (fun q246 => let u248 := q246; if u248 = 0 then (let x250 := (l6 + 0); (r_isUp I245 z g2).bind (fun q252 => let u254 := q252; if u254 = 0 then (let x256 := (l7 + 0); r_laysWait_43 F z g1 g2 g3 g4 g5 k x250 x256 (l8 + 1) I245) else (let x258 := (l7 + 1); r_laysWait_43 F z g1 g2 g3 g4 g5 k x250 x258 (l8 + 1) I245))) else (let x260 := (l6 + 1); (r_isUp I245 z g2).bind (fun q262 => let u264 := q262; if u264 = 0 then (let x266 := (l7 + 0); r_laysWait_43 F z g1 g2 g3 g4 g5 k x260 x266 (l8 + 1) I245) else (let x268 := (l7 + 1); r_laysWait_43 F z g1 g2 g3 g4 g5 k x260 x268 (l8 + 1) I245))))))) else ((r_sitsOwn I206 z g2).bind (fun q270 => let I272 := q270; if (I272 (z + 1) (Int32.toNatClampNeg 32)) = 0 then (some (l6, l7, l8, I272)) else ((r_plays F I272 z g3).bind (fun q274 => let u276 := q274.1; let I277 := q274.2; (r_isUp I277 z g1).bind (fun q278 => let u280 := q278; if u280 = 0 then (let x282 := (l6 + 0); (r_isUp I277 z g2).bind (fun q284 => let u286 := q284; if u286 = 0 then (let x288 := (l7 + 0); r_laysWait_43 F z g1 g2 g3 g4 g5 k x282 x288 (l8 + 1) I277) else (let x290 := (l7 + 1); r_laysWait_43 F z g1 g2 g3 g4 g5 k x282 x290 (l8 + 1) I277))) else (let x292 := (l6 + 1); (r_isUp I277 z g2).bind (fun q294 => let u296 := q294; if u296 = 0 then (let x298 := (l7 + 0); r_laysWait_43 F z g1 g2 g3 g4 g5 k x292 x298 (l8 + 1) I277) else (let x300 := (l7 + 1); r_laysWait_43 F z g1 g2 g3 g4 g5 k x292 x300 (l8 + 1) I277)))))))))) else (if (I206 (z + 1) (Int32.toNatClampNeg 32)) = 0 then (some (l6, l7, l8, I206)) else ((r_plays F I206 z g3).bind (fun q209 => let u211 := q209.1; let I212 := q209.2; (r_isUp I212 z g1).bind (fun q213 => let u215 := q213; if u215 = 0 then (let x217 := (l6 + 0); (r_isUp I212 z g2).bind (fun q219 => let u221 := q219; if u221 = 0 then (let x223 := (l7 + 0); r_laysWait_43 F z g1 g2 g3 g4 g5 k x217 x223 (l8 + 1) I212) else (let x225 := (l7 + 1); r_laysWait_43 F z g1 g2 g3 g4 g5 k x217 x225 (l8 + 1) I212))) else (let x227 := (l6 + 1); (r_isUp I212 z g2).bind (fun q229 => let u231 := q229; if u231 = 0 then (let x233 := (l7 + 0); r_laysWait_43 F z g1 g2 g3 g4 g5 k x227 x233 (l8 + 1) I212) else (let x235 := (l7 + 1); r_laysWait_43 F z g1 g2 g3 g4 g5 k x227 x235 (l8 + 1) I212))))))))))) else (if l8 = g5 then ((r_isUp I z g2).bind (fun q40 => let u42 := q40; if u42 = 0 then (if (I (z + 1) (Int32.toNatClampNeg 32)) = 0 then (some (l6, l7, l8, I)) else ((r_plays F I z g3).bind (fun q45 => let u47 := q45.1; let I48 := q45.2; (r_isUp I48 z g1).bind (fun q49 => let u51 := q49; if u51 = 0 then (let x53 := (l6 + 0); (r_isUp I48 z g2).bind (fun q55 => let u57 := q55; if u57 = 0 then (let x59 := (l7 + 0); r_laysWait_43 F z g1 g2 g3 g4 g5 k x53 x59 (l8 + 1) I48) else (let x61 := (l7 + 1); r_laysWait_43 F z g1 g2 g3 g4 g5 k x53 x61 (l8 + 1) I48))) else (let x63 := (l6 + 1); (r_isUp I48 z g2).bind (fun q65 => let u67 := q65; if u67 = 0 then (let x69 := (l7 + 0); r_laysWait_43 F z g1 g2 g3 g4 g5 k x63 x69 (l8 + 1) I48) else (let x71 := (l7 + 1); r_laysWait_43 F z g1 g2 g3 g4 g5 k x63 x71 (l8 + 1) I48))))))) else ((r_sitsOwn I z g2).bind (fun q73 => let I75 := q73; if (I75 (z + 1) (Int32.toNatClampNeg 32)) = 0 then (some (l6, l7, l8, I75)) else ((r_plays F I75 z g3).bind (fun q77 => let u79 := q77.1; let I80 := q77.2; (r_isUp I80 z g1).bind (fun q81 => let u83 := q81; if u83 = 0 then (let x85 := (l6 + 0); (r_isUp I80 z g2).bind (fun q87 => let u89 := q87; if u89 = 0 then (let x91 := (l7 + 0); r_laysWait_43 F z g1 g2 g3 g4 g5 k x85 x91 (l8 + 1) I80) else (let x93 := (l7 + 1); r_laysWait_43 F z g1 g2 g3 g4 g5 k x85 x93 (l8 + 1) I80))) else (let x95 := (l6 + 1); (r_isUp I80 z g2).bind (fun q97 => let u99 := q97; if u99 = 0 then (let x101 := (l7 + 0); r_laysWait_43 F z g1 g2 g3 g4 g5 k x95 x101 (l8 + 1) I80) else (let x103 := (l7 + 1); r_laysWait_43 F z g1 g2 g3 g4 g5 k x95 x103 (l8 + 1) I80)))))))))) else (if (I (z + 1) (Int32.toNatClampNeg 32)) = 0 then (some (l6, l7, l8, I)) else ((r_plays F I z g3).bind (fun q12 => let u14 := q12.1; let I15 := q12.2; (r_isUp I15 z g1).bind (fun q16 => let u18 := q16; if u18 = 0 then (let x20 := (l6 + 0); (r_isUp I15 z g2).bind (fun q22 => let u24 := q22; if u24 = 0 then (let x26 := (l7 + 0); r_laysWait_43 F z g1 g2 g3 g4 g5 k x20 x26 (l8 + 1) I15) else (let x28 := (l7 + 1); r_laysWait_43 F z g1 g2 g3 g4 g5 k x20 x28 (l8 + 1) I15))) else (let x30 := (l6 + 1); (r_isUp I15 z g2).bind (fun q32 => let u34 := q32; if u34 = 0 then (let x36 := (l7 + 0); r_laysWait_43 F z g1 g2 g3 g4 g5 k x30 x36 (l8 + 1) I15) else (let x38 := (l7 + 1); r_laysWait_43 F z g1 g2 g3 g4 g5 k x30 x38 (l8 + 1) I15))))))))
def r_laysWait (F : Nat) (I : Nat → Nat → Int32) (z : Nat) (v1 : Int32) (v2 : Int32) (v3 : Int32) (v4 : Int32) (v5 : Int32) : Option ((Nat → Nat → Int32)) := let I1 := uI I (z + 1) (Int32.toNatClampNeg 32) ((1 <<< (v1 &&& 31)) ||| (1 <<< (v2 &&& 31))); chk (47 + v1) 3891 (let I4 := uI I1 (z + 1) (Int32.toNatClampNeg (47 + v1)) 0; chk (47 + v2) 3891 (let I7 := uI I4 (z + 1) (Int32.toNatClampNeg (47 + v2)) 0; (r_laysWait_43 F z v1 v2 v3 v4 v5 F 0 0 0 I7).bind (fun q302 => let m304 := q302.1; let m305 := q302.2.1; let m306 := q302.2.2.1; let I307 := q302.2.2.2; if m304 ≤ m305 then ((r_worthOf I307 z 1).bind (fun q309 => let u311 := q309; chk ((21 * v4) + v5) 441 (let I313 := uI I307 (z + 15) (Int32.toNatClampNeg ((21 * v4) + v5)) (u311 - (I307 (z + 1) (Int32.toNatClampNeg (47 + v1)))); if m305 ≤ m304 then ((r_worthOf I313 z 1).bind (fun q316 => let u318 := q316; let I319 := uI I313 (z + 16) (Int32.toNatClampNeg ((21 * v4) + v5)) (u318 - (I313 (z + 1) (Int32.toNatClampNeg (47 + v2)))); (r_isAgain F I319 z).bind (fun q321 => let I323 := q321; some I323))) else ((r_worthOf I313 z 0).bind (fun q324 => let u326 := q324; let I327 := uI I313 (z + 16) (Int32.toNatClampNeg ((21 * v4) + v5)) (u326 - (I313 (z + 1) (Int32.toNatClampNeg (47 + v2)))); (r_isAgain F I327 z).bind (fun q329 => let I331 := q329; some I331)))))) else ((r_worthOf I307 z 0).bind (fun q332 => let u334 := q332; chk ((21 * v4) + v5) 441 (let I336 := uI I307 (z + 15) (Int32.toNatClampNeg ((21 * v4) + v5)) (u334 - (I307 (z + 1) (Int32.toNatClampNeg (47 + v1)))); if m305 ≤ m304 then ((r_worthOf I336 z 1).bind (fun q339 => let u341 := q339; let I342 := uI I336 (z + 16) (Int32.toNatClampNeg ((21 * v4) + v5)) (u341 - (I336 (z + 1) (Int32.toNatClampNeg (47 + v2)))); (r_isAgain F I342 z).bind (fun q344 => let I346 := q344; some I346))) else ((r_worthOf I336 z 0).bind (fun q347 => let u349 := q347; let I350 := uI I336 (z + 16) (Int32.toNatClampNeg ((21 * v4) + v5)) (u349 - (I336 (z + 1) (Int32.toNatClampNeg (47 + v2)))); (r_isAgain F I350 z).bind (fun q352 => let I354 := q352; some I354)))))))))
theorem l_r_laysWait_43 {l : Launch} {D : va_G} {E : Nat → ClassId} {B : Nat → Prop} {n F : Nat} {Q : Option Value → HT → Prop} {T : Nat → Option (Nat × Nat)} {J : Nat → Nat → Int64} {P : Nat → Nat → Option Nat} {z : Nat} {g1 : Int32} {g2 : Int32} {g3 : Int32} {g4 : Int32} {g5 : Int32} (hs_z : isMd T P z)  (r : Int32 × Int32 × Int32 × (Nat → Nat → Int32)) : ∀ (k : Nat) (l6 : Int32) (l7 : Int32) (l8 : Int32) (I : (Nat → Nat → Int32)), r_laysWait_43 F z g1 g2 g3 g4 g5 k l6 l7 l8 I = some r → V l D E B yX12_laysWait cX12_laysWait 9 none 6 0 0 Q 0 0 (n, T, r.2.2.2, J, P) 144 [(0, some (.ref z)), (1, some (.int g1)), (2, some (.int g2)), (3, some (.int g3)), (4, some (.int g4)), (5, some (.int g5)), (6, some (.int (r.1))), (7, some (.int (r.2.1))), (8, some (.int (r.2.2.1)))] [] → V l D E B yX12_laysWait cX12_laysWait 9 none 6 0 0 Q 0 0 (n, T, I, J, P) 43 [(0, some (.ref z)), (1, some (.int g1)), (2, some (.int g2)), (3, some (.int g3)), (4, some (.int g4)), (5, some (.int g5)), (6, some (.int l6)), (7, some (.int l7)), (8, some (.int l8))] [] := by
  intro k
  induction k with
  | zero =>
    intro l6 l7 l8 I hf hk
    cases hf
  | succ k ih =>
    intro l6 l7 l8 I hf hk
    unfold r_laysWait_43 at hf
    refine V.iload dX12_laysWait_43 rfl ?_
    refine V.iload dX12_laysWait_45 rfl ?_
    refine V.icmp_ne 63 dX12_laysWait_47 (by decide) (fun c9 => ?_) (fun c9 => ?_)
    · rw [if_neg c9] at hf
      refine V.iload dX12_laysWait_63 rfl ?_
      refine V.iload dX12_laysWait_65 rfl ?_
      refine V.icmp_ne 83 dX12_laysWait_67 (by decide) (fun c10 => ?_) (fun c10 => ?_)
      · rw [if_neg c10] at hf
        refine V.aload_n dX12_laysWait_83 rfl ?_
        refine V.getr fl_X12_13 dX12_laysWait_84 (hs_z.1 0 (12, 0) rfl) (hs_z.2 0 1 1 rfl) (by decide) rfl ?_
        refine V.bipush (v := 32) dX12_laysWait_87 (by decide) ?_
        refine V.iald dX12_laysWait_89 (hs_z.1 1 (20, 3891) rfl) (vp_lit (by decide)) ?_
        refine V.if_ne 96 dX12_laysWait_90 (by decide) (fun c11 => ?_) (fun c11 => ?_)
        · rw [if_neg c11] at hf
          refine V.aload_n dX12_laysWait_96 rfl ?_
          refine V.iload_n dX12_laysWait_97 rfl ?_
          obtain ⟨⟨u14, I15⟩, hk13, hf⟩ := bnd_some hf
          try dsimp only at hf
          refine V.inv cv_X12_267 (c_r_plays hs_z hk13) dX12_laysWait_98 (hs_z.1 0 (12, 0) rfl) (by decide) rfl rfl rfl (Nat.le_of_ble_eq_true rfl) (by decide) (by decide) (Nat.le_refl _) (Nat.le_refl _) (fun _ _ hq => ?_)
          obtain ⟨rfl, rfl⟩ := hq
          try dsimp only
          refine V.pop dX12_laysWait_101 rfl ?_
          refine V.iload dX12_laysWait_102 rfl ?_
          refine V.aload_n dX12_laysWait_104 rfl ?_
          refine V.iload_n dX12_laysWait_105 rfl ?_
          obtain ⟨u18, hk17, hf⟩ := bnd_some hf
          try dsimp only at hf
          refine V.inv cv_X12_218 (c_r_isUp hs_z hk17) dX12_laysWait_106 (hs_z.1 0 (12, 0) rfl) (by decide) rfl rfl rfl (Nat.le_of_ble_eq_true rfl) (by decide) (by decide) (Nat.le_refl _) (Nat.le_refl _) (fun _ _ hq => ?_)
          obtain ⟨rfl, rfl⟩ := hq
          refine V.if_eq 116 dX12_laysWait_109 (by decide) (fun c19 => ?_) (fun c19 => ?_)
          · rw [if_pos c19] at hf
            refine V.iconst (v := 0) dX12_laysWait_116 (by decide) ?_
            refine V.iadd dX12_laysWait_117 ?_
            refine V.istore dX12_laysWait_118 (by decide) (by first | exact rfl | exact trivial) ?_
            obtain ⟨x20, e21⟩ : ∃ zz_, zz_ = (l6 + 0) := ⟨_, rfl⟩
            rw [← e21] at hf ⊢
            try dsimp only at hf
            refine V.iload dX12_laysWait_120 rfl ?_
            refine V.aload_n dX12_laysWait_122 rfl ?_
            refine V.iload_n dX12_laysWait_123 rfl ?_
            obtain ⟨u24, hk23, hf⟩ := bnd_some hf
            try dsimp only at hf
            refine V.inv cv_X12_218 (c_r_isUp hs_z hk23) dX12_laysWait_124 (hs_z.1 0 (12, 0) rfl) (by decide) rfl rfl rfl (Nat.le_of_ble_eq_true rfl) (by decide) (by decide) (Nat.le_refl _) (Nat.le_refl _) (fun _ _ hq => ?_)
            obtain ⟨rfl, rfl⟩ := hq
            refine V.if_eq 134 dX12_laysWait_127 (by decide) (fun c25 => ?_) (fun c25 => ?_)
            · rw [if_pos c25] at hf
              refine V.iconst (v := 0) dX12_laysWait_134 (by decide) ?_
              refine V.iadd dX12_laysWait_135 ?_
              refine V.istore dX12_laysWait_136 (by decide) (by first | exact rfl | exact trivial) ?_
              obtain ⟨x26, e27⟩ : ∃ zz_, zz_ = (l7 + 0) := ⟨_, rfl⟩
              rw [← e27] at hf ⊢
              try dsimp only at hf
              refine V.iinc (v := (l8 + 1)) dX12_laysWait_138 rfl rfl (by first | exact rfl | exact trivial) ?_
              refine V.goto 43 dX12_laysWait_141 (by decide) ?_
              exact V.lo [(0, some (.ref z)), (1, some (.int g1)), (2, some (.int g2)), (3, some (.int g3)), (4, some (.int g4)), (5, some (.int g5)), (6, some (.int x20)), (7, some (.int x26)), (8, some (.int (l8 + 1)))] (by simp only [Subs]; repeat' first | exact trivial | constructor | rfl) (ih _ _ _ _ hf hk)
            · rw [if_neg c25] at hf
              refine V.iconst (v := 1) dX12_laysWait_130 (by decide) ?_
              refine V.goto 135 dX12_laysWait_131 (by decide) ?_
              refine V.iadd dX12_laysWait_135 ?_
              refine V.istore dX12_laysWait_136 (by decide) (by first | exact rfl | exact trivial) ?_
              obtain ⟨x28, e29⟩ : ∃ zz_, zz_ = (l7 + 1) := ⟨_, rfl⟩
              rw [← e29] at hf ⊢
              try dsimp only at hf
              refine V.iinc (v := (l8 + 1)) dX12_laysWait_138 rfl rfl (by first | exact rfl | exact trivial) ?_
              refine V.goto 43 dX12_laysWait_141 (by decide) ?_
              exact V.lo [(0, some (.ref z)), (1, some (.int g1)), (2, some (.int g2)), (3, some (.int g3)), (4, some (.int g4)), (5, some (.int g5)), (6, some (.int x20)), (7, some (.int x28)), (8, some (.int (l8 + 1)))] (by simp only [Subs]; repeat' first | exact trivial | constructor | rfl) (ih _ _ _ _ hf hk)
          · rw [if_neg c19] at hf
            refine V.iconst (v := 1) dX12_laysWait_112 (by decide) ?_
            refine V.goto 117 dX12_laysWait_113 (by decide) ?_
            refine V.iadd dX12_laysWait_117 ?_
            refine V.istore dX12_laysWait_118 (by decide) (by first | exact rfl | exact trivial) ?_
            obtain ⟨x30, e31⟩ : ∃ zz_, zz_ = (l6 + 1) := ⟨_, rfl⟩
            rw [← e31] at hf ⊢
            try dsimp only at hf
            refine V.iload dX12_laysWait_120 rfl ?_
            refine V.aload_n dX12_laysWait_122 rfl ?_
            refine V.iload_n dX12_laysWait_123 rfl ?_
            obtain ⟨u34, hk33, hf⟩ := bnd_some hf
            try dsimp only at hf
            refine V.inv cv_X12_218 (c_r_isUp hs_z hk33) dX12_laysWait_124 (hs_z.1 0 (12, 0) rfl) (by decide) rfl rfl rfl (Nat.le_of_ble_eq_true rfl) (by decide) (by decide) (Nat.le_refl _) (Nat.le_refl _) (fun _ _ hq => ?_)
            obtain ⟨rfl, rfl⟩ := hq
            refine V.if_eq 134 dX12_laysWait_127 (by decide) (fun c35 => ?_) (fun c35 => ?_)
            · rw [if_pos c35] at hf
              refine V.iconst (v := 0) dX12_laysWait_134 (by decide) ?_
              refine V.iadd dX12_laysWait_135 ?_
              refine V.istore dX12_laysWait_136 (by decide) (by first | exact rfl | exact trivial) ?_
              obtain ⟨x36, e37⟩ : ∃ zz_, zz_ = (l7 + 0) := ⟨_, rfl⟩
              rw [← e37] at hf ⊢
              try dsimp only at hf
              refine V.iinc (v := (l8 + 1)) dX12_laysWait_138 rfl rfl (by first | exact rfl | exact trivial) ?_
              refine V.goto 43 dX12_laysWait_141 (by decide) ?_
              exact V.lo [(0, some (.ref z)), (1, some (.int g1)), (2, some (.int g2)), (3, some (.int g3)), (4, some (.int g4)), (5, some (.int g5)), (6, some (.int x30)), (7, some (.int x36)), (8, some (.int (l8 + 1)))] (by simp only [Subs]; repeat' first | exact trivial | constructor | rfl) (ih _ _ _ _ hf hk)
            · rw [if_neg c35] at hf
              refine V.iconst (v := 1) dX12_laysWait_130 (by decide) ?_
              refine V.goto 135 dX12_laysWait_131 (by decide) ?_
              refine V.iadd dX12_laysWait_135 ?_
              refine V.istore dX12_laysWait_136 (by decide) (by first | exact rfl | exact trivial) ?_
              obtain ⟨x38, e39⟩ : ∃ zz_, zz_ = (l7 + 1) := ⟨_, rfl⟩
              rw [← e39] at hf ⊢
              try dsimp only at hf
              refine V.iinc (v := (l8 + 1)) dX12_laysWait_138 rfl rfl (by first | exact rfl | exact trivial) ?_
              refine V.goto 43 dX12_laysWait_141 (by decide) ?_
              exact V.lo [(0, some (.ref z)), (1, some (.int g1)), (2, some (.int g2)), (3, some (.int g3)), (4, some (.int g4)), (5, some (.int g5)), (6, some (.int x30)), (7, some (.int x38)), (8, some (.int (l8 + 1)))] (by simp only [Subs]; repeat' first | exact trivial | constructor | rfl) (ih _ _ _ _ hf hk)
        · rw [if_pos c11] at hf
          refine V.goto 144 dX12_laysWait_93 (by decide) ?_
          obtain rfl := Option.some.inj hf
          exact V.lo [(0, some (.ref z)), (1, some (.int g1)), (2, some (.int g2)), (3, some (.int g3)), (4, some (.int g4)), (5, some (.int g5)), (6, some (.int l6)), (7, some (.int l7)), (8, some (.int l8))] (by simp only [Subs]; repeat' first | exact trivial | constructor | rfl) hk
      · rw [if_pos c10] at hf
        refine V.aload_n dX12_laysWait_70 rfl ?_
        refine V.iload_n dX12_laysWait_71 rfl ?_
        obtain ⟨u42, hk41, hf⟩ := bnd_some hf
        try dsimp only at hf
        refine V.inv cv_X12_218 (c_r_isUp hs_z hk41) dX12_laysWait_72 (hs_z.1 0 (12, 0) rfl) (by decide) rfl rfl rfl (Nat.le_of_ble_eq_true rfl) (by decide) (by decide) (Nat.le_refl _) (Nat.le_refl _) (fun _ _ hq => ?_)
        obtain ⟨rfl, rfl⟩ := hq
        refine V.if_eq 83 dX12_laysWait_75 (by decide) (fun c43 => ?_) (fun c43 => ?_)
        · rw [if_pos c43] at hf
          refine V.aload_n dX12_laysWait_83 rfl ?_
          refine V.getr fl_X12_13 dX12_laysWait_84 (hs_z.1 0 (12, 0) rfl) (hs_z.2 0 1 1 rfl) (by decide) rfl ?_
          refine V.bipush (v := 32) dX12_laysWait_87 (by decide) ?_
          refine V.iald dX12_laysWait_89 (hs_z.1 1 (20, 3891) rfl) (vp_lit (by decide)) ?_
          refine V.if_ne 96 dX12_laysWait_90 (by decide) (fun c44 => ?_) (fun c44 => ?_)
          · rw [if_neg c44] at hf
            refine V.aload_n dX12_laysWait_96 rfl ?_
            refine V.iload_n dX12_laysWait_97 rfl ?_
            obtain ⟨⟨u47, I48⟩, hk46, hf⟩ := bnd_some hf
            try dsimp only at hf
            refine V.inv cv_X12_267 (c_r_plays hs_z hk46) dX12_laysWait_98 (hs_z.1 0 (12, 0) rfl) (by decide) rfl rfl rfl (Nat.le_of_ble_eq_true rfl) (by decide) (by decide) (Nat.le_refl _) (Nat.le_refl _) (fun _ _ hq => ?_)
            obtain ⟨rfl, rfl⟩ := hq
            try dsimp only
            refine V.pop dX12_laysWait_101 rfl ?_
            refine V.iload dX12_laysWait_102 rfl ?_
            refine V.aload_n dX12_laysWait_104 rfl ?_
            refine V.iload_n dX12_laysWait_105 rfl ?_
            obtain ⟨u51, hk50, hf⟩ := bnd_some hf
            try dsimp only at hf
            refine V.inv cv_X12_218 (c_r_isUp hs_z hk50) dX12_laysWait_106 (hs_z.1 0 (12, 0) rfl) (by decide) rfl rfl rfl (Nat.le_of_ble_eq_true rfl) (by decide) (by decide) (Nat.le_refl _) (Nat.le_refl _) (fun _ _ hq => ?_)
            obtain ⟨rfl, rfl⟩ := hq
            refine V.if_eq 116 dX12_laysWait_109 (by decide) (fun c52 => ?_) (fun c52 => ?_)
            · rw [if_pos c52] at hf
              refine V.iconst (v := 0) dX12_laysWait_116 (by decide) ?_
              refine V.iadd dX12_laysWait_117 ?_
              refine V.istore dX12_laysWait_118 (by decide) (by first | exact rfl | exact trivial) ?_
              obtain ⟨x53, e54⟩ : ∃ zz_, zz_ = (l6 + 0) := ⟨_, rfl⟩
              rw [← e54] at hf ⊢
              try dsimp only at hf
              refine V.iload dX12_laysWait_120 rfl ?_
              refine V.aload_n dX12_laysWait_122 rfl ?_
              refine V.iload_n dX12_laysWait_123 rfl ?_
              obtain ⟨u57, hk56, hf⟩ := bnd_some hf
              try dsimp only at hf
              refine V.inv cv_X12_218 (c_r_isUp hs_z hk56) dX12_laysWait_124 (hs_z.1 0 (12, 0) rfl) (by decide) rfl rfl rfl (Nat.le_of_ble_eq_true rfl) (by decide) (by decide) (Nat.le_refl _) (Nat.le_refl _) (fun _ _ hq => ?_)
              obtain ⟨rfl, rfl⟩ := hq
              refine V.if_eq 134 dX12_laysWait_127 (by decide) (fun c58 => ?_) (fun c58 => ?_)
              · rw [if_pos c58] at hf
                refine V.iconst (v := 0) dX12_laysWait_134 (by decide) ?_
                refine V.iadd dX12_laysWait_135 ?_
                refine V.istore dX12_laysWait_136 (by decide) (by first | exact rfl | exact trivial) ?_
                obtain ⟨x59, e60⟩ : ∃ zz_, zz_ = (l7 + 0) := ⟨_, rfl⟩
                rw [← e60] at hf ⊢
                try dsimp only at hf
                refine V.iinc (v := (l8 + 1)) dX12_laysWait_138 rfl rfl (by first | exact rfl | exact trivial) ?_
                refine V.goto 43 dX12_laysWait_141 (by decide) ?_
                exact V.lo [(0, some (.ref z)), (1, some (.int g1)), (2, some (.int g2)), (3, some (.int g3)), (4, some (.int g4)), (5, some (.int g5)), (6, some (.int x53)), (7, some (.int x59)), (8, some (.int (l8 + 1)))] (by simp only [Subs]; repeat' first | exact trivial | constructor | rfl) (ih _ _ _ _ hf hk)
              · rw [if_neg c58] at hf
                refine V.iconst (v := 1) dX12_laysWait_130 (by decide) ?_
                refine V.goto 135 dX12_laysWait_131 (by decide) ?_
                refine V.iadd dX12_laysWait_135 ?_
                refine V.istore dX12_laysWait_136 (by decide) (by first | exact rfl | exact trivial) ?_
                obtain ⟨x61, e62⟩ : ∃ zz_, zz_ = (l7 + 1) := ⟨_, rfl⟩
                rw [← e62] at hf ⊢
                try dsimp only at hf
                refine V.iinc (v := (l8 + 1)) dX12_laysWait_138 rfl rfl (by first | exact rfl | exact trivial) ?_
                refine V.goto 43 dX12_laysWait_141 (by decide) ?_
                exact V.lo [(0, some (.ref z)), (1, some (.int g1)), (2, some (.int g2)), (3, some (.int g3)), (4, some (.int g4)), (5, some (.int g5)), (6, some (.int x53)), (7, some (.int x61)), (8, some (.int (l8 + 1)))] (by simp only [Subs]; repeat' first | exact trivial | constructor | rfl) (ih _ _ _ _ hf hk)
            · rw [if_neg c52] at hf
              refine V.iconst (v := 1) dX12_laysWait_112 (by decide) ?_
              refine V.goto 117 dX12_laysWait_113 (by decide) ?_
              refine V.iadd dX12_laysWait_117 ?_
              refine V.istore dX12_laysWait_118 (by decide) (by first | exact rfl | exact trivial) ?_
              obtain ⟨x63, e64⟩ : ∃ zz_, zz_ = (l6 + 1) := ⟨_, rfl⟩
              rw [← e64] at hf ⊢
              try dsimp only at hf
              refine V.iload dX12_laysWait_120 rfl ?_
              refine V.aload_n dX12_laysWait_122 rfl ?_
              refine V.iload_n dX12_laysWait_123 rfl ?_
              obtain ⟨u67, hk66, hf⟩ := bnd_some hf
              try dsimp only at hf
              refine V.inv cv_X12_218 (c_r_isUp hs_z hk66) dX12_laysWait_124 (hs_z.1 0 (12, 0) rfl) (by decide) rfl rfl rfl (Nat.le_of_ble_eq_true rfl) (by decide) (by decide) (Nat.le_refl _) (Nat.le_refl _) (fun _ _ hq => ?_)
              obtain ⟨rfl, rfl⟩ := hq
              refine V.if_eq 134 dX12_laysWait_127 (by decide) (fun c68 => ?_) (fun c68 => ?_)
              · rw [if_pos c68] at hf
                refine V.iconst (v := 0) dX12_laysWait_134 (by decide) ?_
                refine V.iadd dX12_laysWait_135 ?_
                refine V.istore dX12_laysWait_136 (by decide) (by first | exact rfl | exact trivial) ?_
                obtain ⟨x69, e70⟩ : ∃ zz_, zz_ = (l7 + 0) := ⟨_, rfl⟩
                rw [← e70] at hf ⊢
                try dsimp only at hf
                refine V.iinc (v := (l8 + 1)) dX12_laysWait_138 rfl rfl (by first | exact rfl | exact trivial) ?_
                refine V.goto 43 dX12_laysWait_141 (by decide) ?_
                exact V.lo [(0, some (.ref z)), (1, some (.int g1)), (2, some (.int g2)), (3, some (.int g3)), (4, some (.int g4)), (5, some (.int g5)), (6, some (.int x63)), (7, some (.int x69)), (8, some (.int (l8 + 1)))] (by simp only [Subs]; repeat' first | exact trivial | constructor | rfl) (ih _ _ _ _ hf hk)
              · rw [if_neg c68] at hf
                refine V.iconst (v := 1) dX12_laysWait_130 (by decide) ?_
                refine V.goto 135 dX12_laysWait_131 (by decide) ?_
                refine V.iadd dX12_laysWait_135 ?_
                refine V.istore dX12_laysWait_136 (by decide) (by first | exact rfl | exact trivial) ?_
                obtain ⟨x71, e72⟩ : ∃ zz_, zz_ = (l7 + 1) := ⟨_, rfl⟩
                rw [← e72] at hf ⊢
                try dsimp only at hf
                refine V.iinc (v := (l8 + 1)) dX12_laysWait_138 rfl rfl (by first | exact rfl | exact trivial) ?_
                refine V.goto 43 dX12_laysWait_141 (by decide) ?_
                exact V.lo [(0, some (.ref z)), (1, some (.int g1)), (2, some (.int g2)), (3, some (.int g3)), (4, some (.int g4)), (5, some (.int g5)), (6, some (.int x63)), (7, some (.int x71)), (8, some (.int (l8 + 1)))] (by simp only [Subs]; repeat' first | exact trivial | constructor | rfl) (ih _ _ _ _ hf hk)
          · rw [if_pos c44] at hf
            refine V.goto 144 dX12_laysWait_93 (by decide) ?_
            obtain rfl := Option.some.inj hf
            exact V.lo [(0, some (.ref z)), (1, some (.int g1)), (2, some (.int g2)), (3, some (.int g3)), (4, some (.int g4)), (5, some (.int g5)), (6, some (.int l6)), (7, some (.int l7)), (8, some (.int l8))] (by simp only [Subs]; repeat' first | exact trivial | constructor | rfl) hk
        · rw [if_neg c43] at hf
          refine V.aload_n dX12_laysWait_78 rfl ?_
          refine V.iload_n dX12_laysWait_79 rfl ?_
          obtain ⟨I75, hk74, hf⟩ := bnd_some hf
          try dsimp only at hf
          refine V.inv cv_X12_277 (c_r_sitsOwn hs_z hk74) dX12_laysWait_80 (hs_z.1 0 (12, 0) rfl) (by decide) rfl rfl rfl (Nat.le_of_ble_eq_true rfl) (by decide) (by decide) (Nat.le_refl _) (Nat.le_refl _) (fun _ _ hq => ?_)
          obtain ⟨rfl, rfl⟩ := hq
          refine V.aload_n dX12_laysWait_83 rfl ?_
          refine V.getr fl_X12_13 dX12_laysWait_84 (hs_z.1 0 (12, 0) rfl) (hs_z.2 0 1 1 rfl) (by decide) rfl ?_
          refine V.bipush (v := 32) dX12_laysWait_87 (by decide) ?_
          refine V.iald dX12_laysWait_89 (hs_z.1 1 (20, 3891) rfl) (vp_lit (by decide)) ?_
          refine V.if_ne 96 dX12_laysWait_90 (by decide) (fun c76 => ?_) (fun c76 => ?_)
          · rw [if_neg c76] at hf
            refine V.aload_n dX12_laysWait_96 rfl ?_
            refine V.iload_n dX12_laysWait_97 rfl ?_
            obtain ⟨⟨u79, I80⟩, hk78, hf⟩ := bnd_some hf
            try dsimp only at hf
            refine V.inv cv_X12_267 (c_r_plays hs_z hk78) dX12_laysWait_98 (hs_z.1 0 (12, 0) rfl) (by decide) rfl rfl rfl (Nat.le_of_ble_eq_true rfl) (by decide) (by decide) (Nat.le_refl _) (Nat.le_refl _) (fun _ _ hq => ?_)
            obtain ⟨rfl, rfl⟩ := hq
            try dsimp only
            refine V.pop dX12_laysWait_101 rfl ?_
            refine V.iload dX12_laysWait_102 rfl ?_
            refine V.aload_n dX12_laysWait_104 rfl ?_
            refine V.iload_n dX12_laysWait_105 rfl ?_
            obtain ⟨u83, hk82, hf⟩ := bnd_some hf
            try dsimp only at hf
            refine V.inv cv_X12_218 (c_r_isUp hs_z hk82) dX12_laysWait_106 (hs_z.1 0 (12, 0) rfl) (by decide) rfl rfl rfl (Nat.le_of_ble_eq_true rfl) (by decide) (by decide) (Nat.le_refl _) (Nat.le_refl _) (fun _ _ hq => ?_)
            obtain ⟨rfl, rfl⟩ := hq
            refine V.if_eq 116 dX12_laysWait_109 (by decide) (fun c84 => ?_) (fun c84 => ?_)
            · rw [if_pos c84] at hf
              refine V.iconst (v := 0) dX12_laysWait_116 (by decide) ?_
              refine V.iadd dX12_laysWait_117 ?_
              refine V.istore dX12_laysWait_118 (by decide) (by first | exact rfl | exact trivial) ?_
              obtain ⟨x85, e86⟩ : ∃ zz_, zz_ = (l6 + 0) := ⟨_, rfl⟩
              rw [← e86] at hf ⊢
              try dsimp only at hf
              refine V.iload dX12_laysWait_120 rfl ?_
              refine V.aload_n dX12_laysWait_122 rfl ?_
              refine V.iload_n dX12_laysWait_123 rfl ?_
              obtain ⟨u89, hk88, hf⟩ := bnd_some hf
              try dsimp only at hf
              refine V.inv cv_X12_218 (c_r_isUp hs_z hk88) dX12_laysWait_124 (hs_z.1 0 (12, 0) rfl) (by decide) rfl rfl rfl (Nat.le_of_ble_eq_true rfl) (by decide) (by decide) (Nat.le_refl _) (Nat.le_refl _) (fun _ _ hq => ?_)
              obtain ⟨rfl, rfl⟩ := hq
              refine V.if_eq 134 dX12_laysWait_127 (by decide) (fun c90 => ?_) (fun c90 => ?_)
              · rw [if_pos c90] at hf
                refine V.iconst (v := 0) dX12_laysWait_134 (by decide) ?_
                refine V.iadd dX12_laysWait_135 ?_
                refine V.istore dX12_laysWait_136 (by decide) (by first | exact rfl | exact trivial) ?_
                obtain ⟨x91, e92⟩ : ∃ zz_, zz_ = (l7 + 0) := ⟨_, rfl⟩
                rw [← e92] at hf ⊢
                try dsimp only at hf
                refine V.iinc (v := (l8 + 1)) dX12_laysWait_138 rfl rfl (by first | exact rfl | exact trivial) ?_
                refine V.goto 43 dX12_laysWait_141 (by decide) ?_
                exact V.lo [(0, some (.ref z)), (1, some (.int g1)), (2, some (.int g2)), (3, some (.int g3)), (4, some (.int g4)), (5, some (.int g5)), (6, some (.int x85)), (7, some (.int x91)), (8, some (.int (l8 + 1)))] (by simp only [Subs]; repeat' first | exact trivial | constructor | rfl) (ih _ _ _ _ hf hk)
              · rw [if_neg c90] at hf
                refine V.iconst (v := 1) dX12_laysWait_130 (by decide) ?_
                refine V.goto 135 dX12_laysWait_131 (by decide) ?_
                refine V.iadd dX12_laysWait_135 ?_
                refine V.istore dX12_laysWait_136 (by decide) (by first | exact rfl | exact trivial) ?_
                obtain ⟨x93, e94⟩ : ∃ zz_, zz_ = (l7 + 1) := ⟨_, rfl⟩
                rw [← e94] at hf ⊢
                try dsimp only at hf
                refine V.iinc (v := (l8 + 1)) dX12_laysWait_138 rfl rfl (by first | exact rfl | exact trivial) ?_
                refine V.goto 43 dX12_laysWait_141 (by decide) ?_
                exact V.lo [(0, some (.ref z)), (1, some (.int g1)), (2, some (.int g2)), (3, some (.int g3)), (4, some (.int g4)), (5, some (.int g5)), (6, some (.int x85)), (7, some (.int x93)), (8, some (.int (l8 + 1)))] (by simp only [Subs]; repeat' first | exact trivial | constructor | rfl) (ih _ _ _ _ hf hk)
            · rw [if_neg c84] at hf
              refine V.iconst (v := 1) dX12_laysWait_112 (by decide) ?_
              refine V.goto 117 dX12_laysWait_113 (by decide) ?_
              refine V.iadd dX12_laysWait_117 ?_
              refine V.istore dX12_laysWait_118 (by decide) (by first | exact rfl | exact trivial) ?_
              obtain ⟨x95, e96⟩ : ∃ zz_, zz_ = (l6 + 1) := ⟨_, rfl⟩
              rw [← e96] at hf ⊢
              try dsimp only at hf
              refine V.iload dX12_laysWait_120 rfl ?_
              refine V.aload_n dX12_laysWait_122 rfl ?_
              refine V.iload_n dX12_laysWait_123 rfl ?_
              obtain ⟨u99, hk98, hf⟩ := bnd_some hf
              try dsimp only at hf
              refine V.inv cv_X12_218 (c_r_isUp hs_z hk98) dX12_laysWait_124 (hs_z.1 0 (12, 0) rfl) (by decide) rfl rfl rfl (Nat.le_of_ble_eq_true rfl) (by decide) (by decide) (Nat.le_refl _) (Nat.le_refl _) (fun _ _ hq => ?_)
              obtain ⟨rfl, rfl⟩ := hq
              refine V.if_eq 134 dX12_laysWait_127 (by decide) (fun c100 => ?_) (fun c100 => ?_)
              · rw [if_pos c100] at hf
                refine V.iconst (v := 0) dX12_laysWait_134 (by decide) ?_
                refine V.iadd dX12_laysWait_135 ?_
                refine V.istore dX12_laysWait_136 (by decide) (by first | exact rfl | exact trivial) ?_
                obtain ⟨x101, e102⟩ : ∃ zz_, zz_ = (l7 + 0) := ⟨_, rfl⟩
                rw [← e102] at hf ⊢
                try dsimp only at hf
                refine V.iinc (v := (l8 + 1)) dX12_laysWait_138 rfl rfl (by first | exact rfl | exact trivial) ?_
                refine V.goto 43 dX12_laysWait_141 (by decide) ?_
                exact V.lo [(0, some (.ref z)), (1, some (.int g1)), (2, some (.int g2)), (3, some (.int g3)), (4, some (.int g4)), (5, some (.int g5)), (6, some (.int x95)), (7, some (.int x101)), (8, some (.int (l8 + 1)))] (by simp only [Subs]; repeat' first | exact trivial | constructor | rfl) (ih _ _ _ _ hf hk)
              · rw [if_neg c100] at hf
                refine V.iconst (v := 1) dX12_laysWait_130 (by decide) ?_
                refine V.goto 135 dX12_laysWait_131 (by decide) ?_
                refine V.iadd dX12_laysWait_135 ?_
                refine V.istore dX12_laysWait_136 (by decide) (by first | exact rfl | exact trivial) ?_
                obtain ⟨x103, e104⟩ : ∃ zz_, zz_ = (l7 + 1) := ⟨_, rfl⟩
                rw [← e104] at hf ⊢
                try dsimp only at hf
                refine V.iinc (v := (l8 + 1)) dX12_laysWait_138 rfl rfl (by first | exact rfl | exact trivial) ?_
                refine V.goto 43 dX12_laysWait_141 (by decide) ?_
                exact V.lo [(0, some (.ref z)), (1, some (.int g1)), (2, some (.int g2)), (3, some (.int g3)), (4, some (.int g4)), (5, some (.int g5)), (6, some (.int x95)), (7, some (.int x103)), (8, some (.int (l8 + 1)))] (by simp only [Subs]; repeat' first | exact trivial | constructor | rfl) (ih _ _ _ _ hf hk)
          · rw [if_pos c76] at hf
            refine V.goto 144 dX12_laysWait_93 (by decide) ?_
            obtain rfl := Option.some.inj hf
            exact V.lo [(0, some (.ref z)), (1, some (.int g1)), (2, some (.int g2)), (3, some (.int g3)), (4, some (.int g4)), (5, some (.int g5)), (6, some (.int l6)), (7, some (.int l7)), (8, some (.int l8))] (by simp only [Subs]; repeat' first | exact trivial | constructor | rfl) hk
    · rw [if_pos c9] at hf
      refine V.aload_n dX12_laysWait_50 rfl ?_
      refine V.iload_n dX12_laysWait_51 rfl ?_
      obtain ⟨u107, hk106, hf⟩ := bnd_some hf
      try dsimp only at hf
      refine V.inv cv_X12_218 (c_r_isUp hs_z hk106) dX12_laysWait_52 (hs_z.1 0 (12, 0) rfl) (by decide) rfl rfl rfl (Nat.le_of_ble_eq_true rfl) (by decide) (by decide) (Nat.le_refl _) (Nat.le_refl _) (fun _ _ hq => ?_)
      obtain ⟨rfl, rfl⟩ := hq
      refine V.if_eq 63 dX12_laysWait_55 (by decide) (fun c108 => ?_) (fun c108 => ?_)
      · rw [if_pos c108] at hf
        refine V.iload dX12_laysWait_63 rfl ?_
        refine V.iload dX12_laysWait_65 rfl ?_
        refine V.icmp_ne 83 dX12_laysWait_67 (by decide) (fun c109 => ?_) (fun c109 => ?_)
        · rw [if_neg c109] at hf
          refine V.aload_n dX12_laysWait_83 rfl ?_
          refine V.getr fl_X12_13 dX12_laysWait_84 (hs_z.1 0 (12, 0) rfl) (hs_z.2 0 1 1 rfl) (by decide) rfl ?_
          refine V.bipush (v := 32) dX12_laysWait_87 (by decide) ?_
          refine V.iald dX12_laysWait_89 (hs_z.1 1 (20, 3891) rfl) (vp_lit (by decide)) ?_
          refine V.if_ne 96 dX12_laysWait_90 (by decide) (fun c110 => ?_) (fun c110 => ?_)
          · rw [if_neg c110] at hf
            refine V.aload_n dX12_laysWait_96 rfl ?_
            refine V.iload_n dX12_laysWait_97 rfl ?_
            obtain ⟨⟨u113, I114⟩, hk112, hf⟩ := bnd_some hf
            try dsimp only at hf
            refine V.inv cv_X12_267 (c_r_plays hs_z hk112) dX12_laysWait_98 (hs_z.1 0 (12, 0) rfl) (by decide) rfl rfl rfl (Nat.le_of_ble_eq_true rfl) (by decide) (by decide) (Nat.le_refl _) (Nat.le_refl _) (fun _ _ hq => ?_)
            obtain ⟨rfl, rfl⟩ := hq
            try dsimp only
            refine V.pop dX12_laysWait_101 rfl ?_
            refine V.iload dX12_laysWait_102 rfl ?_
            refine V.aload_n dX12_laysWait_104 rfl ?_
            refine V.iload_n dX12_laysWait_105 rfl ?_
            obtain ⟨u117, hk116, hf⟩ := bnd_some hf
            try dsimp only at hf
            refine V.inv cv_X12_218 (c_r_isUp hs_z hk116) dX12_laysWait_106 (hs_z.1 0 (12, 0) rfl) (by decide) rfl rfl rfl (Nat.le_of_ble_eq_true rfl) (by decide) (by decide) (Nat.le_refl _) (Nat.le_refl _) (fun _ _ hq => ?_)
            obtain ⟨rfl, rfl⟩ := hq
            refine V.if_eq 116 dX12_laysWait_109 (by decide) (fun c118 => ?_) (fun c118 => ?_)
            · rw [if_pos c118] at hf
              refine V.iconst (v := 0) dX12_laysWait_116 (by decide) ?_
              refine V.iadd dX12_laysWait_117 ?_
              refine V.istore dX12_laysWait_118 (by decide) (by first | exact rfl | exact trivial) ?_
              obtain ⟨x119, e120⟩ : ∃ zz_, zz_ = (l6 + 0) := ⟨_, rfl⟩
              rw [← e120] at hf ⊢
              try dsimp only at hf
              refine V.iload dX12_laysWait_120 rfl ?_
              refine V.aload_n dX12_laysWait_122 rfl ?_
              refine V.iload_n dX12_laysWait_123 rfl ?_
              obtain ⟨u123, hk122, hf⟩ := bnd_some hf
              try dsimp only at hf
              refine V.inv cv_X12_218 (c_r_isUp hs_z hk122) dX12_laysWait_124 (hs_z.1 0 (12, 0) rfl) (by decide) rfl rfl rfl (Nat.le_of_ble_eq_true rfl) (by decide) (by decide) (Nat.le_refl _) (Nat.le_refl _) (fun _ _ hq => ?_)
              obtain ⟨rfl, rfl⟩ := hq
              refine V.if_eq 134 dX12_laysWait_127 (by decide) (fun c124 => ?_) (fun c124 => ?_)
              · rw [if_pos c124] at hf
                refine V.iconst (v := 0) dX12_laysWait_134 (by decide) ?_
                refine V.iadd dX12_laysWait_135 ?_
                refine V.istore dX12_laysWait_136 (by decide) (by first | exact rfl | exact trivial) ?_
                obtain ⟨x125, e126⟩ : ∃ zz_, zz_ = (l7 + 0) := ⟨_, rfl⟩
                rw [← e126] at hf ⊢
                try dsimp only at hf
                refine V.iinc (v := (l8 + 1)) dX12_laysWait_138 rfl rfl (by first | exact rfl | exact trivial) ?_
                refine V.goto 43 dX12_laysWait_141 (by decide) ?_
                exact V.lo [(0, some (.ref z)), (1, some (.int g1)), (2, some (.int g2)), (3, some (.int g3)), (4, some (.int g4)), (5, some (.int g5)), (6, some (.int x119)), (7, some (.int x125)), (8, some (.int (l8 + 1)))] (by simp only [Subs]; repeat' first | exact trivial | constructor | rfl) (ih _ _ _ _ hf hk)
              · rw [if_neg c124] at hf
                refine V.iconst (v := 1) dX12_laysWait_130 (by decide) ?_
                refine V.goto 135 dX12_laysWait_131 (by decide) ?_
                refine V.iadd dX12_laysWait_135 ?_
                refine V.istore dX12_laysWait_136 (by decide) (by first | exact rfl | exact trivial) ?_
                obtain ⟨x127, e128⟩ : ∃ zz_, zz_ = (l7 + 1) := ⟨_, rfl⟩
                rw [← e128] at hf ⊢
                try dsimp only at hf
                refine V.iinc (v := (l8 + 1)) dX12_laysWait_138 rfl rfl (by first | exact rfl | exact trivial) ?_
                refine V.goto 43 dX12_laysWait_141 (by decide) ?_
                exact V.lo [(0, some (.ref z)), (1, some (.int g1)), (2, some (.int g2)), (3, some (.int g3)), (4, some (.int g4)), (5, some (.int g5)), (6, some (.int x119)), (7, some (.int x127)), (8, some (.int (l8 + 1)))] (by simp only [Subs]; repeat' first | exact trivial | constructor | rfl) (ih _ _ _ _ hf hk)
            · rw [if_neg c118] at hf
              refine V.iconst (v := 1) dX12_laysWait_112 (by decide) ?_
              refine V.goto 117 dX12_laysWait_113 (by decide) ?_
              refine V.iadd dX12_laysWait_117 ?_
              refine V.istore dX12_laysWait_118 (by decide) (by first | exact rfl | exact trivial) ?_
              obtain ⟨x129, e130⟩ : ∃ zz_, zz_ = (l6 + 1) := ⟨_, rfl⟩
              rw [← e130] at hf ⊢
              try dsimp only at hf
              refine V.iload dX12_laysWait_120 rfl ?_
              refine V.aload_n dX12_laysWait_122 rfl ?_
              refine V.iload_n dX12_laysWait_123 rfl ?_
              obtain ⟨u133, hk132, hf⟩ := bnd_some hf
              try dsimp only at hf
              refine V.inv cv_X12_218 (c_r_isUp hs_z hk132) dX12_laysWait_124 (hs_z.1 0 (12, 0) rfl) (by decide) rfl rfl rfl (Nat.le_of_ble_eq_true rfl) (by decide) (by decide) (Nat.le_refl _) (Nat.le_refl _) (fun _ _ hq => ?_)
              obtain ⟨rfl, rfl⟩ := hq
              refine V.if_eq 134 dX12_laysWait_127 (by decide) (fun c134 => ?_) (fun c134 => ?_)
              · rw [if_pos c134] at hf
                refine V.iconst (v := 0) dX12_laysWait_134 (by decide) ?_
                refine V.iadd dX12_laysWait_135 ?_
                refine V.istore dX12_laysWait_136 (by decide) (by first | exact rfl | exact trivial) ?_
                obtain ⟨x135, e136⟩ : ∃ zz_, zz_ = (l7 + 0) := ⟨_, rfl⟩
                rw [← e136] at hf ⊢
                try dsimp only at hf
                refine V.iinc (v := (l8 + 1)) dX12_laysWait_138 rfl rfl (by first | exact rfl | exact trivial) ?_
                refine V.goto 43 dX12_laysWait_141 (by decide) ?_
                exact V.lo [(0, some (.ref z)), (1, some (.int g1)), (2, some (.int g2)), (3, some (.int g3)), (4, some (.int g4)), (5, some (.int g5)), (6, some (.int x129)), (7, some (.int x135)), (8, some (.int (l8 + 1)))] (by simp only [Subs]; repeat' first | exact trivial | constructor | rfl) (ih _ _ _ _ hf hk)
              · rw [if_neg c134] at hf
                refine V.iconst (v := 1) dX12_laysWait_130 (by decide) ?_
                refine V.goto 135 dX12_laysWait_131 (by decide) ?_
                refine V.iadd dX12_laysWait_135 ?_
                refine V.istore dX12_laysWait_136 (by decide) (by first | exact rfl | exact trivial) ?_
                obtain ⟨x137, e138⟩ : ∃ zz_, zz_ = (l7 + 1) := ⟨_, rfl⟩
                rw [← e138] at hf ⊢
                try dsimp only at hf
                refine V.iinc (v := (l8 + 1)) dX12_laysWait_138 rfl rfl (by first | exact rfl | exact trivial) ?_
                refine V.goto 43 dX12_laysWait_141 (by decide) ?_
                exact V.lo [(0, some (.ref z)), (1, some (.int g1)), (2, some (.int g2)), (3, some (.int g3)), (4, some (.int g4)), (5, some (.int g5)), (6, some (.int x129)), (7, some (.int x137)), (8, some (.int (l8 + 1)))] (by simp only [Subs]; repeat' first | exact trivial | constructor | rfl) (ih _ _ _ _ hf hk)
          · rw [if_pos c110] at hf
            refine V.goto 144 dX12_laysWait_93 (by decide) ?_
            obtain rfl := Option.some.inj hf
            exact V.lo [(0, some (.ref z)), (1, some (.int g1)), (2, some (.int g2)), (3, some (.int g3)), (4, some (.int g4)), (5, some (.int g5)), (6, some (.int l6)), (7, some (.int l7)), (8, some (.int l8))] (by simp only [Subs]; repeat' first | exact trivial | constructor | rfl) hk
        · rw [if_pos c109] at hf
          refine V.aload_n dX12_laysWait_70 rfl ?_
          refine V.iload_n dX12_laysWait_71 rfl ?_
          obtain ⟨u141, hk140, hf⟩ := bnd_some hf
          try dsimp only at hf
          refine V.inv cv_X12_218 (c_r_isUp hs_z hk140) dX12_laysWait_72 (hs_z.1 0 (12, 0) rfl) (by decide) rfl rfl rfl (Nat.le_of_ble_eq_true rfl) (by decide) (by decide) (Nat.le_refl _) (Nat.le_refl _) (fun _ _ hq => ?_)
          obtain ⟨rfl, rfl⟩ := hq
          refine V.if_eq 83 dX12_laysWait_75 (by decide) (fun c142 => ?_) (fun c142 => ?_)
          · rw [if_pos c142] at hf
            refine V.aload_n dX12_laysWait_83 rfl ?_
            refine V.getr fl_X12_13 dX12_laysWait_84 (hs_z.1 0 (12, 0) rfl) (hs_z.2 0 1 1 rfl) (by decide) rfl ?_
            refine V.bipush (v := 32) dX12_laysWait_87 (by decide) ?_
            refine V.iald dX12_laysWait_89 (hs_z.1 1 (20, 3891) rfl) (vp_lit (by decide)) ?_
            refine V.if_ne 96 dX12_laysWait_90 (by decide) (fun c143 => ?_) (fun c143 => ?_)
            · rw [if_neg c143] at hf
              refine V.aload_n dX12_laysWait_96 rfl ?_
              refine V.iload_n dX12_laysWait_97 rfl ?_
              obtain ⟨⟨u146, I147⟩, hk145, hf⟩ := bnd_some hf
              try dsimp only at hf
              refine V.inv cv_X12_267 (c_r_plays hs_z hk145) dX12_laysWait_98 (hs_z.1 0 (12, 0) rfl) (by decide) rfl rfl rfl (Nat.le_of_ble_eq_true rfl) (by decide) (by decide) (Nat.le_refl _) (Nat.le_refl _) (fun _ _ hq => ?_)
              obtain ⟨rfl, rfl⟩ := hq
              try dsimp only
              refine V.pop dX12_laysWait_101 rfl ?_
              refine V.iload dX12_laysWait_102 rfl ?_
              refine V.aload_n dX12_laysWait_104 rfl ?_
              refine V.iload_n dX12_laysWait_105 rfl ?_
              obtain ⟨u150, hk149, hf⟩ := bnd_some hf
              try dsimp only at hf
              refine V.inv cv_X12_218 (c_r_isUp hs_z hk149) dX12_laysWait_106 (hs_z.1 0 (12, 0) rfl) (by decide) rfl rfl rfl (Nat.le_of_ble_eq_true rfl) (by decide) (by decide) (Nat.le_refl _) (Nat.le_refl _) (fun _ _ hq => ?_)
              obtain ⟨rfl, rfl⟩ := hq
              refine V.if_eq 116 dX12_laysWait_109 (by decide) (fun c151 => ?_) (fun c151 => ?_)
              · rw [if_pos c151] at hf
                refine V.iconst (v := 0) dX12_laysWait_116 (by decide) ?_
                refine V.iadd dX12_laysWait_117 ?_
                refine V.istore dX12_laysWait_118 (by decide) (by first | exact rfl | exact trivial) ?_
                obtain ⟨x152, e153⟩ : ∃ zz_, zz_ = (l6 + 0) := ⟨_, rfl⟩
                rw [← e153] at hf ⊢
                try dsimp only at hf
                refine V.iload dX12_laysWait_120 rfl ?_
                refine V.aload_n dX12_laysWait_122 rfl ?_
                refine V.iload_n dX12_laysWait_123 rfl ?_
                obtain ⟨u156, hk155, hf⟩ := bnd_some hf
                try dsimp only at hf
                refine V.inv cv_X12_218 (c_r_isUp hs_z hk155) dX12_laysWait_124 (hs_z.1 0 (12, 0) rfl) (by decide) rfl rfl rfl (Nat.le_of_ble_eq_true rfl) (by decide) (by decide) (Nat.le_refl _) (Nat.le_refl _) (fun _ _ hq => ?_)
                obtain ⟨rfl, rfl⟩ := hq
                refine V.if_eq 134 dX12_laysWait_127 (by decide) (fun c157 => ?_) (fun c157 => ?_)
                · rw [if_pos c157] at hf
                  refine V.iconst (v := 0) dX12_laysWait_134 (by decide) ?_
                  refine V.iadd dX12_laysWait_135 ?_
                  refine V.istore dX12_laysWait_136 (by decide) (by first | exact rfl | exact trivial) ?_
                  obtain ⟨x158, e159⟩ : ∃ zz_, zz_ = (l7 + 0) := ⟨_, rfl⟩
                  rw [← e159] at hf ⊢
                  try dsimp only at hf
                  refine V.iinc (v := (l8 + 1)) dX12_laysWait_138 rfl rfl (by first | exact rfl | exact trivial) ?_
                  refine V.goto 43 dX12_laysWait_141 (by decide) ?_
                  exact V.lo [(0, some (.ref z)), (1, some (.int g1)), (2, some (.int g2)), (3, some (.int g3)), (4, some (.int g4)), (5, some (.int g5)), (6, some (.int x152)), (7, some (.int x158)), (8, some (.int (l8 + 1)))] (by simp only [Subs]; repeat' first | exact trivial | constructor | rfl) (ih _ _ _ _ hf hk)
                · rw [if_neg c157] at hf
                  refine V.iconst (v := 1) dX12_laysWait_130 (by decide) ?_
                  refine V.goto 135 dX12_laysWait_131 (by decide) ?_
                  refine V.iadd dX12_laysWait_135 ?_
                  refine V.istore dX12_laysWait_136 (by decide) (by first | exact rfl | exact trivial) ?_
                  obtain ⟨x160, e161⟩ : ∃ zz_, zz_ = (l7 + 1) := ⟨_, rfl⟩
                  rw [← e161] at hf ⊢
                  try dsimp only at hf
                  refine V.iinc (v := (l8 + 1)) dX12_laysWait_138 rfl rfl (by first | exact rfl | exact trivial) ?_
                  refine V.goto 43 dX12_laysWait_141 (by decide) ?_
                  exact V.lo [(0, some (.ref z)), (1, some (.int g1)), (2, some (.int g2)), (3, some (.int g3)), (4, some (.int g4)), (5, some (.int g5)), (6, some (.int x152)), (7, some (.int x160)), (8, some (.int (l8 + 1)))] (by simp only [Subs]; repeat' first | exact trivial | constructor | rfl) (ih _ _ _ _ hf hk)
              · rw [if_neg c151] at hf
                refine V.iconst (v := 1) dX12_laysWait_112 (by decide) ?_
                refine V.goto 117 dX12_laysWait_113 (by decide) ?_
                refine V.iadd dX12_laysWait_117 ?_
                refine V.istore dX12_laysWait_118 (by decide) (by first | exact rfl | exact trivial) ?_
                obtain ⟨x162, e163⟩ : ∃ zz_, zz_ = (l6 + 1) := ⟨_, rfl⟩
                rw [← e163] at hf ⊢
                try dsimp only at hf
                refine V.iload dX12_laysWait_120 rfl ?_
                refine V.aload_n dX12_laysWait_122 rfl ?_
                refine V.iload_n dX12_laysWait_123 rfl ?_
                obtain ⟨u166, hk165, hf⟩ := bnd_some hf
                try dsimp only at hf
                refine V.inv cv_X12_218 (c_r_isUp hs_z hk165) dX12_laysWait_124 (hs_z.1 0 (12, 0) rfl) (by decide) rfl rfl rfl (Nat.le_of_ble_eq_true rfl) (by decide) (by decide) (Nat.le_refl _) (Nat.le_refl _) (fun _ _ hq => ?_)
                obtain ⟨rfl, rfl⟩ := hq
                refine V.if_eq 134 dX12_laysWait_127 (by decide) (fun c167 => ?_) (fun c167 => ?_)
                · rw [if_pos c167] at hf
                  refine V.iconst (v := 0) dX12_laysWait_134 (by decide) ?_
                  refine V.iadd dX12_laysWait_135 ?_
                  refine V.istore dX12_laysWait_136 (by decide) (by first | exact rfl | exact trivial) ?_
                  obtain ⟨x168, e169⟩ : ∃ zz_, zz_ = (l7 + 0) := ⟨_, rfl⟩
                  rw [← e169] at hf ⊢
                  try dsimp only at hf
                  refine V.iinc (v := (l8 + 1)) dX12_laysWait_138 rfl rfl (by first | exact rfl | exact trivial) ?_
                  refine V.goto 43 dX12_laysWait_141 (by decide) ?_
                  exact V.lo [(0, some (.ref z)), (1, some (.int g1)), (2, some (.int g2)), (3, some (.int g3)), (4, some (.int g4)), (5, some (.int g5)), (6, some (.int x162)), (7, some (.int x168)), (8, some (.int (l8 + 1)))] (by simp only [Subs]; repeat' first | exact trivial | constructor | rfl) (ih _ _ _ _ hf hk)
                · rw [if_neg c167] at hf
                  refine V.iconst (v := 1) dX12_laysWait_130 (by decide) ?_
                  refine V.goto 135 dX12_laysWait_131 (by decide) ?_
                  refine V.iadd dX12_laysWait_135 ?_
                  refine V.istore dX12_laysWait_136 (by decide) (by first | exact rfl | exact trivial) ?_
                  obtain ⟨x170, e171⟩ : ∃ zz_, zz_ = (l7 + 1) := ⟨_, rfl⟩
                  rw [← e171] at hf ⊢
                  try dsimp only at hf
                  refine V.iinc (v := (l8 + 1)) dX12_laysWait_138 rfl rfl (by first | exact rfl | exact trivial) ?_
                  refine V.goto 43 dX12_laysWait_141 (by decide) ?_
                  exact V.lo [(0, some (.ref z)), (1, some (.int g1)), (2, some (.int g2)), (3, some (.int g3)), (4, some (.int g4)), (5, some (.int g5)), (6, some (.int x162)), (7, some (.int x170)), (8, some (.int (l8 + 1)))] (by simp only [Subs]; repeat' first | exact trivial | constructor | rfl) (ih _ _ _ _ hf hk)
            · rw [if_pos c143] at hf
              refine V.goto 144 dX12_laysWait_93 (by decide) ?_
              obtain rfl := Option.some.inj hf
              exact V.lo [(0, some (.ref z)), (1, some (.int g1)), (2, some (.int g2)), (3, some (.int g3)), (4, some (.int g4)), (5, some (.int g5)), (6, some (.int l6)), (7, some (.int l7)), (8, some (.int l8))] (by simp only [Subs]; repeat' first | exact trivial | constructor | rfl) hk
          · rw [if_neg c142] at hf
            refine V.aload_n dX12_laysWait_78 rfl ?_
            refine V.iload_n dX12_laysWait_79 rfl ?_
            obtain ⟨I174, hk173, hf⟩ := bnd_some hf
            try dsimp only at hf
            refine V.inv cv_X12_277 (c_r_sitsOwn hs_z hk173) dX12_laysWait_80 (hs_z.1 0 (12, 0) rfl) (by decide) rfl rfl rfl (Nat.le_of_ble_eq_true rfl) (by decide) (by decide) (Nat.le_refl _) (Nat.le_refl _) (fun _ _ hq => ?_)
            obtain ⟨rfl, rfl⟩ := hq
            refine V.aload_n dX12_laysWait_83 rfl ?_
            refine V.getr fl_X12_13 dX12_laysWait_84 (hs_z.1 0 (12, 0) rfl) (hs_z.2 0 1 1 rfl) (by decide) rfl ?_
            refine V.bipush (v := 32) dX12_laysWait_87 (by decide) ?_
            refine V.iald dX12_laysWait_89 (hs_z.1 1 (20, 3891) rfl) (vp_lit (by decide)) ?_
            refine V.if_ne 96 dX12_laysWait_90 (by decide) (fun c175 => ?_) (fun c175 => ?_)
            · rw [if_neg c175] at hf
              refine V.aload_n dX12_laysWait_96 rfl ?_
              refine V.iload_n dX12_laysWait_97 rfl ?_
              obtain ⟨⟨u178, I179⟩, hk177, hf⟩ := bnd_some hf
              try dsimp only at hf
              refine V.inv cv_X12_267 (c_r_plays hs_z hk177) dX12_laysWait_98 (hs_z.1 0 (12, 0) rfl) (by decide) rfl rfl rfl (Nat.le_of_ble_eq_true rfl) (by decide) (by decide) (Nat.le_refl _) (Nat.le_refl _) (fun _ _ hq => ?_)
              obtain ⟨rfl, rfl⟩ := hq
              try dsimp only
              refine V.pop dX12_laysWait_101 rfl ?_
              refine V.iload dX12_laysWait_102 rfl ?_
              refine V.aload_n dX12_laysWait_104 rfl ?_
              refine V.iload_n dX12_laysWait_105 rfl ?_
              obtain ⟨u182, hk181, hf⟩ := bnd_some hf
              try dsimp only at hf
              refine V.inv cv_X12_218 (c_r_isUp hs_z hk181) dX12_laysWait_106 (hs_z.1 0 (12, 0) rfl) (by decide) rfl rfl rfl (Nat.le_of_ble_eq_true rfl) (by decide) (by decide) (Nat.le_refl _) (Nat.le_refl _) (fun _ _ hq => ?_)
              obtain ⟨rfl, rfl⟩ := hq
              refine V.if_eq 116 dX12_laysWait_109 (by decide) (fun c183 => ?_) (fun c183 => ?_)
              · rw [if_pos c183] at hf
                refine V.iconst (v := 0) dX12_laysWait_116 (by decide) ?_
                refine V.iadd dX12_laysWait_117 ?_
                refine V.istore dX12_laysWait_118 (by decide) (by first | exact rfl | exact trivial) ?_
                obtain ⟨x184, e185⟩ : ∃ zz_, zz_ = (l6 + 0) := ⟨_, rfl⟩
                rw [← e185] at hf ⊢
                try dsimp only at hf
                refine V.iload dX12_laysWait_120 rfl ?_
                refine V.aload_n dX12_laysWait_122 rfl ?_
                refine V.iload_n dX12_laysWait_123 rfl ?_
                obtain ⟨u188, hk187, hf⟩ := bnd_some hf
                try dsimp only at hf
                refine V.inv cv_X12_218 (c_r_isUp hs_z hk187) dX12_laysWait_124 (hs_z.1 0 (12, 0) rfl) (by decide) rfl rfl rfl (Nat.le_of_ble_eq_true rfl) (by decide) (by decide) (Nat.le_refl _) (Nat.le_refl _) (fun _ _ hq => ?_)
                obtain ⟨rfl, rfl⟩ := hq
                refine V.if_eq 134 dX12_laysWait_127 (by decide) (fun c189 => ?_) (fun c189 => ?_)
                · rw [if_pos c189] at hf
                  refine V.iconst (v := 0) dX12_laysWait_134 (by decide) ?_
                  refine V.iadd dX12_laysWait_135 ?_
                  refine V.istore dX12_laysWait_136 (by decide) (by first | exact rfl | exact trivial) ?_
                  obtain ⟨x190, e191⟩ : ∃ zz_, zz_ = (l7 + 0) := ⟨_, rfl⟩
                  rw [← e191] at hf ⊢
                  try dsimp only at hf
                  refine V.iinc (v := (l8 + 1)) dX12_laysWait_138 rfl rfl (by first | exact rfl | exact trivial) ?_
                  refine V.goto 43 dX12_laysWait_141 (by decide) ?_
                  exact V.lo [(0, some (.ref z)), (1, some (.int g1)), (2, some (.int g2)), (3, some (.int g3)), (4, some (.int g4)), (5, some (.int g5)), (6, some (.int x184)), (7, some (.int x190)), (8, some (.int (l8 + 1)))] (by simp only [Subs]; repeat' first | exact trivial | constructor | rfl) (ih _ _ _ _ hf hk)
                · rw [if_neg c189] at hf
                  refine V.iconst (v := 1) dX12_laysWait_130 (by decide) ?_
                  refine V.goto 135 dX12_laysWait_131 (by decide) ?_
                  refine V.iadd dX12_laysWait_135 ?_
                  refine V.istore dX12_laysWait_136 (by decide) (by first | exact rfl | exact trivial) ?_
                  obtain ⟨x192, e193⟩ : ∃ zz_, zz_ = (l7 + 1) := ⟨_, rfl⟩
                  rw [← e193] at hf ⊢
                  try dsimp only at hf
                  refine V.iinc (v := (l8 + 1)) dX12_laysWait_138 rfl rfl (by first | exact rfl | exact trivial) ?_
                  refine V.goto 43 dX12_laysWait_141 (by decide) ?_
                  exact V.lo [(0, some (.ref z)), (1, some (.int g1)), (2, some (.int g2)), (3, some (.int g3)), (4, some (.int g4)), (5, some (.int g5)), (6, some (.int x184)), (7, some (.int x192)), (8, some (.int (l8 + 1)))] (by simp only [Subs]; repeat' first | exact trivial | constructor | rfl) (ih _ _ _ _ hf hk)
              · rw [if_neg c183] at hf
                refine V.iconst (v := 1) dX12_laysWait_112 (by decide) ?_
                refine V.goto 117 dX12_laysWait_113 (by decide) ?_
                refine V.iadd dX12_laysWait_117 ?_
                refine V.istore dX12_laysWait_118 (by decide) (by first | exact rfl | exact trivial) ?_
                obtain ⟨x194, e195⟩ : ∃ zz_, zz_ = (l6 + 1) := ⟨_, rfl⟩
                rw [← e195] at hf ⊢
                try dsimp only at hf
                refine V.iload dX12_laysWait_120 rfl ?_
                refine V.aload_n dX12_laysWait_122 rfl ?_
                refine V.iload_n dX12_laysWait_123 rfl ?_
                obtain ⟨u198, hk197, hf⟩ := bnd_some hf
                try dsimp only at hf
                refine V.inv cv_X12_218 (c_r_isUp hs_z hk197) dX12_laysWait_124 (hs_z.1 0 (12, 0) rfl) (by decide) rfl rfl rfl (Nat.le_of_ble_eq_true rfl) (by decide) (by decide) (Nat.le_refl _) (Nat.le_refl _) (fun _ _ hq => ?_)
                obtain ⟨rfl, rfl⟩ := hq
                refine V.if_eq 134 dX12_laysWait_127 (by decide) (fun c199 => ?_) (fun c199 => ?_)
                · rw [if_pos c199] at hf
                  refine V.iconst (v := 0) dX12_laysWait_134 (by decide) ?_
                  refine V.iadd dX12_laysWait_135 ?_
                  refine V.istore dX12_laysWait_136 (by decide) (by first | exact rfl | exact trivial) ?_
                  obtain ⟨x200, e201⟩ : ∃ zz_, zz_ = (l7 + 0) := ⟨_, rfl⟩
                  rw [← e201] at hf ⊢
                  try dsimp only at hf
                  refine V.iinc (v := (l8 + 1)) dX12_laysWait_138 rfl rfl (by first | exact rfl | exact trivial) ?_
                  refine V.goto 43 dX12_laysWait_141 (by decide) ?_
                  exact V.lo [(0, some (.ref z)), (1, some (.int g1)), (2, some (.int g2)), (3, some (.int g3)), (4, some (.int g4)), (5, some (.int g5)), (6, some (.int x194)), (7, some (.int x200)), (8, some (.int (l8 + 1)))] (by simp only [Subs]; repeat' first | exact trivial | constructor | rfl) (ih _ _ _ _ hf hk)
                · rw [if_neg c199] at hf
                  refine V.iconst (v := 1) dX12_laysWait_130 (by decide) ?_
                  refine V.goto 135 dX12_laysWait_131 (by decide) ?_
                  refine V.iadd dX12_laysWait_135 ?_
                  refine V.istore dX12_laysWait_136 (by decide) (by first | exact rfl | exact trivial) ?_
                  obtain ⟨x202, e203⟩ : ∃ zz_, zz_ = (l7 + 1) := ⟨_, rfl⟩
                  rw [← e203] at hf ⊢
                  try dsimp only at hf
                  refine V.iinc (v := (l8 + 1)) dX12_laysWait_138 rfl rfl (by first | exact rfl | exact trivial) ?_
                  refine V.goto 43 dX12_laysWait_141 (by decide) ?_
                  exact V.lo [(0, some (.ref z)), (1, some (.int g1)), (2, some (.int g2)), (3, some (.int g3)), (4, some (.int g4)), (5, some (.int g5)), (6, some (.int x194)), (7, some (.int x202)), (8, some (.int (l8 + 1)))] (by simp only [Subs]; repeat' first | exact trivial | constructor | rfl) (ih _ _ _ _ hf hk)
            · rw [if_pos c175] at hf
              refine V.goto 144 dX12_laysWait_93 (by decide) ?_
              obtain rfl := Option.some.inj hf
              exact V.lo [(0, some (.ref z)), (1, some (.int g1)), (2, some (.int g2)), (3, some (.int g3)), (4, some (.int g4)), (5, some (.int g5)), (6, some (.int l6)), (7, some (.int l7)), (8, some (.int l8))] (by simp only [Subs]; repeat' first | exact trivial | constructor | rfl) hk
      · rw [if_neg c108] at hf
        refine V.aload_n dX12_laysWait_58 rfl ?_
        refine V.iload_n dX12_laysWait_59 rfl ?_
        obtain ⟨I206, hk205, hf⟩ := bnd_some hf
        try dsimp only at hf
        refine V.inv cv_X12_277 (c_r_sitsOwn hs_z hk205) dX12_laysWait_60 (hs_z.1 0 (12, 0) rfl) (by decide) rfl rfl rfl (Nat.le_of_ble_eq_true rfl) (by decide) (by decide) (Nat.le_refl _) (Nat.le_refl _) (fun _ _ hq => ?_)
        obtain ⟨rfl, rfl⟩ := hq
        refine V.iload dX12_laysWait_63 rfl ?_
        refine V.iload dX12_laysWait_65 rfl ?_
        refine V.icmp_ne 83 dX12_laysWait_67 (by decide) (fun c207 => ?_) (fun c207 => ?_)
        · rw [if_neg c207] at hf
          refine V.aload_n dX12_laysWait_83 rfl ?_
          refine V.getr fl_X12_13 dX12_laysWait_84 (hs_z.1 0 (12, 0) rfl) (hs_z.2 0 1 1 rfl) (by decide) rfl ?_
          refine V.bipush (v := 32) dX12_laysWait_87 (by decide) ?_
          refine V.iald dX12_laysWait_89 (hs_z.1 1 (20, 3891) rfl) (vp_lit (by decide)) ?_
          refine V.if_ne 96 dX12_laysWait_90 (by decide) (fun c208 => ?_) (fun c208 => ?_)
          · rw [if_neg c208] at hf
            refine V.aload_n dX12_laysWait_96 rfl ?_
            refine V.iload_n dX12_laysWait_97 rfl ?_
            obtain ⟨⟨u211, I212⟩, hk210, hf⟩ := bnd_some hf
            try dsimp only at hf
            refine V.inv cv_X12_267 (c_r_plays hs_z hk210) dX12_laysWait_98 (hs_z.1 0 (12, 0) rfl) (by decide) rfl rfl rfl (Nat.le_of_ble_eq_true rfl) (by decide) (by decide) (Nat.le_refl _) (Nat.le_refl _) (fun _ _ hq => ?_)
            obtain ⟨rfl, rfl⟩ := hq
            try dsimp only
            refine V.pop dX12_laysWait_101 rfl ?_
            refine V.iload dX12_laysWait_102 rfl ?_
            refine V.aload_n dX12_laysWait_104 rfl ?_
            refine V.iload_n dX12_laysWait_105 rfl ?_
            obtain ⟨u215, hk214, hf⟩ := bnd_some hf
            try dsimp only at hf
            refine V.inv cv_X12_218 (c_r_isUp hs_z hk214) dX12_laysWait_106 (hs_z.1 0 (12, 0) rfl) (by decide) rfl rfl rfl (Nat.le_of_ble_eq_true rfl) (by decide) (by decide) (Nat.le_refl _) (Nat.le_refl _) (fun _ _ hq => ?_)
            obtain ⟨rfl, rfl⟩ := hq
            refine V.if_eq 116 dX12_laysWait_109 (by decide) (fun c216 => ?_) (fun c216 => ?_)
            · rw [if_pos c216] at hf
              refine V.iconst (v := 0) dX12_laysWait_116 (by decide) ?_
              refine V.iadd dX12_laysWait_117 ?_
              refine V.istore dX12_laysWait_118 (by decide) (by first | exact rfl | exact trivial) ?_
              obtain ⟨x217, e218⟩ : ∃ zz_, zz_ = (l6 + 0) := ⟨_, rfl⟩
              rw [← e218] at hf ⊢
              try dsimp only at hf
              refine V.iload dX12_laysWait_120 rfl ?_
              refine V.aload_n dX12_laysWait_122 rfl ?_
              refine V.iload_n dX12_laysWait_123 rfl ?_
              obtain ⟨u221, hk220, hf⟩ := bnd_some hf
              try dsimp only at hf
              refine V.inv cv_X12_218 (c_r_isUp hs_z hk220) dX12_laysWait_124 (hs_z.1 0 (12, 0) rfl) (by decide) rfl rfl rfl (Nat.le_of_ble_eq_true rfl) (by decide) (by decide) (Nat.le_refl _) (Nat.le_refl _) (fun _ _ hq => ?_)
              obtain ⟨rfl, rfl⟩ := hq
              refine V.if_eq 134 dX12_laysWait_127 (by decide) (fun c222 => ?_) (fun c222 => ?_)
              · rw [if_pos c222] at hf
                refine V.iconst (v := 0) dX12_laysWait_134 (by decide) ?_
                refine V.iadd dX12_laysWait_135 ?_
                refine V.istore dX12_laysWait_136 (by decide) (by first | exact rfl | exact trivial) ?_
                obtain ⟨x223, e224⟩ : ∃ zz_, zz_ = (l7 + 0) := ⟨_, rfl⟩
                rw [← e224] at hf ⊢
                try dsimp only at hf
                refine V.iinc (v := (l8 + 1)) dX12_laysWait_138 rfl rfl (by first | exact rfl | exact trivial) ?_
                refine V.goto 43 dX12_laysWait_141 (by decide) ?_
                exact V.lo [(0, some (.ref z)), (1, some (.int g1)), (2, some (.int g2)), (3, some (.int g3)), (4, some (.int g4)), (5, some (.int g5)), (6, some (.int x217)), (7, some (.int x223)), (8, some (.int (l8 + 1)))] (by simp only [Subs]; repeat' first | exact trivial | constructor | rfl) (ih _ _ _ _ hf hk)
              · rw [if_neg c222] at hf
                refine V.iconst (v := 1) dX12_laysWait_130 (by decide) ?_
                refine V.goto 135 dX12_laysWait_131 (by decide) ?_
                refine V.iadd dX12_laysWait_135 ?_
                refine V.istore dX12_laysWait_136 (by decide) (by first | exact rfl | exact trivial) ?_
                obtain ⟨x225, e226⟩ : ∃ zz_, zz_ = (l7 + 1) := ⟨_, rfl⟩
                rw [← e226] at hf ⊢
                try dsimp only at hf
                refine V.iinc (v := (l8 + 1)) dX12_laysWait_138 rfl rfl (by first | exact rfl | exact trivial) ?_
                refine V.goto 43 dX12_laysWait_141 (by decide) ?_
                exact V.lo [(0, some (.ref z)), (1, some (.int g1)), (2, some (.int g2)), (3, some (.int g3)), (4, some (.int g4)), (5, some (.int g5)), (6, some (.int x217)), (7, some (.int x225)), (8, some (.int (l8 + 1)))] (by simp only [Subs]; repeat' first | exact trivial | constructor | rfl) (ih _ _ _ _ hf hk)
            · rw [if_neg c216] at hf
              refine V.iconst (v := 1) dX12_laysWait_112 (by decide) ?_
              refine V.goto 117 dX12_laysWait_113 (by decide) ?_
              refine V.iadd dX12_laysWait_117 ?_
              refine V.istore dX12_laysWait_118 (by decide) (by first | exact rfl | exact trivial) ?_
              obtain ⟨x227, e228⟩ : ∃ zz_, zz_ = (l6 + 1) := ⟨_, rfl⟩
              rw [← e228] at hf ⊢
              try dsimp only at hf
              refine V.iload dX12_laysWait_120 rfl ?_
              refine V.aload_n dX12_laysWait_122 rfl ?_
              refine V.iload_n dX12_laysWait_123 rfl ?_
              obtain ⟨u231, hk230, hf⟩ := bnd_some hf
              try dsimp only at hf
              refine V.inv cv_X12_218 (c_r_isUp hs_z hk230) dX12_laysWait_124 (hs_z.1 0 (12, 0) rfl) (by decide) rfl rfl rfl (Nat.le_of_ble_eq_true rfl) (by decide) (by decide) (Nat.le_refl _) (Nat.le_refl _) (fun _ _ hq => ?_)
              obtain ⟨rfl, rfl⟩ := hq
              refine V.if_eq 134 dX12_laysWait_127 (by decide) (fun c232 => ?_) (fun c232 => ?_)
              · rw [if_pos c232] at hf
                refine V.iconst (v := 0) dX12_laysWait_134 (by decide) ?_
                refine V.iadd dX12_laysWait_135 ?_
                refine V.istore dX12_laysWait_136 (by decide) (by first | exact rfl | exact trivial) ?_
                obtain ⟨x233, e234⟩ : ∃ zz_, zz_ = (l7 + 0) := ⟨_, rfl⟩
                rw [← e234] at hf ⊢
                try dsimp only at hf
                refine V.iinc (v := (l8 + 1)) dX12_laysWait_138 rfl rfl (by first | exact rfl | exact trivial) ?_
                refine V.goto 43 dX12_laysWait_141 (by decide) ?_
                exact V.lo [(0, some (.ref z)), (1, some (.int g1)), (2, some (.int g2)), (3, some (.int g3)), (4, some (.int g4)), (5, some (.int g5)), (6, some (.int x227)), (7, some (.int x233)), (8, some (.int (l8 + 1)))] (by simp only [Subs]; repeat' first | exact trivial | constructor | rfl) (ih _ _ _ _ hf hk)
              · rw [if_neg c232] at hf
                refine V.iconst (v := 1) dX12_laysWait_130 (by decide) ?_
                refine V.goto 135 dX12_laysWait_131 (by decide) ?_
                refine V.iadd dX12_laysWait_135 ?_
                refine V.istore dX12_laysWait_136 (by decide) (by first | exact rfl | exact trivial) ?_
                obtain ⟨x235, e236⟩ : ∃ zz_, zz_ = (l7 + 1) := ⟨_, rfl⟩
                rw [← e236] at hf ⊢
                try dsimp only at hf
                refine V.iinc (v := (l8 + 1)) dX12_laysWait_138 rfl rfl (by first | exact rfl | exact trivial) ?_
                refine V.goto 43 dX12_laysWait_141 (by decide) ?_
                exact V.lo [(0, some (.ref z)), (1, some (.int g1)), (2, some (.int g2)), (3, some (.int g3)), (4, some (.int g4)), (5, some (.int g5)), (6, some (.int x227)), (7, some (.int x235)), (8, some (.int (l8 + 1)))] (by simp only [Subs]; repeat' first | exact trivial | constructor | rfl) (ih _ _ _ _ hf hk)
          · rw [if_pos c208] at hf
            refine V.goto 144 dX12_laysWait_93 (by decide) ?_
            obtain rfl := Option.some.inj hf
            exact V.lo [(0, some (.ref z)), (1, some (.int g1)), (2, some (.int g2)), (3, some (.int g3)), (4, some (.int g4)), (5, some (.int g5)), (6, some (.int l6)), (7, some (.int l7)), (8, some (.int l8))] (by simp only [Subs]; repeat' first | exact trivial | constructor | rfl) hk
        · rw [if_pos c207] at hf
          refine V.aload_n dX12_laysWait_70 rfl ?_
          refine V.iload_n dX12_laysWait_71 rfl ?_
          obtain ⟨u239, hk238, hf⟩ := bnd_some hf
          try dsimp only at hf
          refine V.inv cv_X12_218 (c_r_isUp hs_z hk238) dX12_laysWait_72 (hs_z.1 0 (12, 0) rfl) (by decide) rfl rfl rfl (Nat.le_of_ble_eq_true rfl) (by decide) (by decide) (Nat.le_refl _) (Nat.le_refl _) (fun _ _ hq => ?_)
          obtain ⟨rfl, rfl⟩ := hq
          refine V.if_eq 83 dX12_laysWait_75 (by decide) (fun c240 => ?_) (fun c240 => ?_)
          · rw [if_pos c240] at hf
            refine V.aload_n dX12_laysWait_83 rfl ?_
            refine V.getr fl_X12_13 dX12_laysWait_84 (hs_z.1 0 (12, 0) rfl) (hs_z.2 0 1 1 rfl) (by decide) rfl ?_
            refine V.bipush (v := 32) dX12_laysWait_87 (by decide) ?_
            refine V.iald dX12_laysWait_89 (hs_z.1 1 (20, 3891) rfl) (vp_lit (by decide)) ?_
            refine V.if_ne 96 dX12_laysWait_90 (by decide) (fun c241 => ?_) (fun c241 => ?_)
            · rw [if_neg c241] at hf
              refine V.aload_n dX12_laysWait_96 rfl ?_
              refine V.iload_n dX12_laysWait_97 rfl ?_
              obtain ⟨⟨u244, I245⟩, hk243, hf⟩ := bnd_some hf
              try dsimp only at hf
              refine V.inv cv_X12_267 (c_r_plays hs_z hk243) dX12_laysWait_98 (hs_z.1 0 (12, 0) rfl) (by decide) rfl rfl rfl (Nat.le_of_ble_eq_true rfl) (by decide) (by decide) (Nat.le_refl _) (Nat.le_refl _) (fun _ _ hq => ?_)
              obtain ⟨rfl, rfl⟩ := hq
              try dsimp only
              refine V.pop dX12_laysWait_101 rfl ?_
              refine V.iload dX12_laysWait_102 rfl ?_
              refine V.aload_n dX12_laysWait_104 rfl ?_
              refine V.iload_n dX12_laysWait_105 rfl ?_
              obtain ⟨u248, hk247, hf⟩ := bnd_some hf
              try dsimp only at hf
              refine V.inv cv_X12_218 (c_r_isUp hs_z hk247) dX12_laysWait_106 (hs_z.1 0 (12, 0) rfl) (by decide) rfl rfl rfl (Nat.le_of_ble_eq_true rfl) (by decide) (by decide) (Nat.le_refl _) (Nat.le_refl _) (fun _ _ hq => ?_)
              obtain ⟨rfl, rfl⟩ := hq
              refine V.if_eq 116 dX12_laysWait_109 (by decide) (fun c249 => ?_) (fun c249 => ?_)
              · rw [if_pos c249] at hf
                refine V.iconst (v := 0) dX12_laysWait_116 (by decide) ?_
                refine V.iadd dX12_laysWait_117 ?_
                refine V.istore dX12_laysWait_118 (by decide) (by first | exact rfl | exact trivial) ?_
                obtain ⟨x250, e251⟩ : ∃ zz_, zz_ = (l6 + 0) := ⟨_, rfl⟩
                rw [← e251] at hf ⊢
                try dsimp only at hf
                refine V.iload dX12_laysWait_120 rfl ?_
                refine V.aload_n dX12_laysWait_122 rfl ?_
                refine V.iload_n dX12_laysWait_123 rfl ?_
                obtain ⟨u254, hk253, hf⟩ := bnd_some hf
                try dsimp only at hf
                refine V.inv cv_X12_218 (c_r_isUp hs_z hk253) dX12_laysWait_124 (hs_z.1 0 (12, 0) rfl) (by decide) rfl rfl rfl (Nat.le_of_ble_eq_true rfl) (by decide) (by decide) (Nat.le_refl _) (Nat.le_refl _) (fun _ _ hq => ?_)
                obtain ⟨rfl, rfl⟩ := hq
                refine V.if_eq 134 dX12_laysWait_127 (by decide) (fun c255 => ?_) (fun c255 => ?_)
                · rw [if_pos c255] at hf
                  refine V.iconst (v := 0) dX12_laysWait_134 (by decide) ?_
                  refine V.iadd dX12_laysWait_135 ?_
                  refine V.istore dX12_laysWait_136 (by decide) (by first | exact rfl | exact trivial) ?_
                  obtain ⟨x256, e257⟩ : ∃ zz_, zz_ = (l7 + 0) := ⟨_, rfl⟩
                  rw [← e257] at hf ⊢
                  try dsimp only at hf
                  refine V.iinc (v := (l8 + 1)) dX12_laysWait_138 rfl rfl (by first | exact rfl | exact trivial) ?_
                  refine V.goto 43 dX12_laysWait_141 (by decide) ?_
                  exact V.lo [(0, some (.ref z)), (1, some (.int g1)), (2, some (.int g2)), (3, some (.int g3)), (4, some (.int g4)), (5, some (.int g5)), (6, some (.int x250)), (7, some (.int x256)), (8, some (.int (l8 + 1)))] (by simp only [Subs]; repeat' first | exact trivial | constructor | rfl) (ih _ _ _ _ hf hk)
                · rw [if_neg c255] at hf
                  refine V.iconst (v := 1) dX12_laysWait_130 (by decide) ?_
                  refine V.goto 135 dX12_laysWait_131 (by decide) ?_
                  refine V.iadd dX12_laysWait_135 ?_
                  refine V.istore dX12_laysWait_136 (by decide) (by first | exact rfl | exact trivial) ?_
                  obtain ⟨x258, e259⟩ : ∃ zz_, zz_ = (l7 + 1) := ⟨_, rfl⟩
                  rw [← e259] at hf ⊢
                  try dsimp only at hf
                  refine V.iinc (v := (l8 + 1)) dX12_laysWait_138 rfl rfl (by first | exact rfl | exact trivial) ?_
                  refine V.goto 43 dX12_laysWait_141 (by decide) ?_
                  exact V.lo [(0, some (.ref z)), (1, some (.int g1)), (2, some (.int g2)), (3, some (.int g3)), (4, some (.int g4)), (5, some (.int g5)), (6, some (.int x250)), (7, some (.int x258)), (8, some (.int (l8 + 1)))] (by simp only [Subs]; repeat' first | exact trivial | constructor | rfl) (ih _ _ _ _ hf hk)
              · rw [if_neg c249] at hf
                refine V.iconst (v := 1) dX12_laysWait_112 (by decide) ?_
                refine V.goto 117 dX12_laysWait_113 (by decide) ?_
                refine V.iadd dX12_laysWait_117 ?_
                refine V.istore dX12_laysWait_118 (by decide) (by first | exact rfl | exact trivial) ?_
                obtain ⟨x260, e261⟩ : ∃ zz_, zz_ = (l6 + 1) := ⟨_, rfl⟩
                rw [← e261] at hf ⊢
                try dsimp only at hf
                refine V.iload dX12_laysWait_120 rfl ?_
                refine V.aload_n dX12_laysWait_122 rfl ?_
                refine V.iload_n dX12_laysWait_123 rfl ?_
                obtain ⟨u264, hk263, hf⟩ := bnd_some hf
                try dsimp only at hf
                refine V.inv cv_X12_218 (c_r_isUp hs_z hk263) dX12_laysWait_124 (hs_z.1 0 (12, 0) rfl) (by decide) rfl rfl rfl (Nat.le_of_ble_eq_true rfl) (by decide) (by decide) (Nat.le_refl _) (Nat.le_refl _) (fun _ _ hq => ?_)
                obtain ⟨rfl, rfl⟩ := hq
                refine V.if_eq 134 dX12_laysWait_127 (by decide) (fun c265 => ?_) (fun c265 => ?_)
                · rw [if_pos c265] at hf
                  refine V.iconst (v := 0) dX12_laysWait_134 (by decide) ?_
                  refine V.iadd dX12_laysWait_135 ?_
                  refine V.istore dX12_laysWait_136 (by decide) (by first | exact rfl | exact trivial) ?_
                  obtain ⟨x266, e267⟩ : ∃ zz_, zz_ = (l7 + 0) := ⟨_, rfl⟩
                  rw [← e267] at hf ⊢
                  try dsimp only at hf
                  refine V.iinc (v := (l8 + 1)) dX12_laysWait_138 rfl rfl (by first | exact rfl | exact trivial) ?_
                  refine V.goto 43 dX12_laysWait_141 (by decide) ?_
                  exact V.lo [(0, some (.ref z)), (1, some (.int g1)), (2, some (.int g2)), (3, some (.int g3)), (4, some (.int g4)), (5, some (.int g5)), (6, some (.int x260)), (7, some (.int x266)), (8, some (.int (l8 + 1)))] (by simp only [Subs]; repeat' first | exact trivial | constructor | rfl) (ih _ _ _ _ hf hk)
                · rw [if_neg c265] at hf
                  refine V.iconst (v := 1) dX12_laysWait_130 (by decide) ?_
                  refine V.goto 135 dX12_laysWait_131 (by decide) ?_
                  refine V.iadd dX12_laysWait_135 ?_
                  refine V.istore dX12_laysWait_136 (by decide) (by first | exact rfl | exact trivial) ?_
                  obtain ⟨x268, e269⟩ : ∃ zz_, zz_ = (l7 + 1) := ⟨_, rfl⟩
                  rw [← e269] at hf ⊢
                  try dsimp only at hf
                  refine V.iinc (v := (l8 + 1)) dX12_laysWait_138 rfl rfl (by first | exact rfl | exact trivial) ?_
                  refine V.goto 43 dX12_laysWait_141 (by decide) ?_
                  exact V.lo [(0, some (.ref z)), (1, some (.int g1)), (2, some (.int g2)), (3, some (.int g3)), (4, some (.int g4)), (5, some (.int g5)), (6, some (.int x260)), (7, some (.int x268)), (8, some (.int (l8 + 1)))] (by simp only [Subs]; repeat' first | exact trivial | constructor | rfl) (ih _ _ _ _ hf hk)
            · rw [if_pos c241] at hf
              refine V.goto 144 dX12_laysWait_93 (by decide) ?_
              obtain rfl := Option.some.inj hf
              exact V.lo [(0, some (.ref z)), (1, some (.int g1)), (2, some (.int g2)), (3, some (.int g3)), (4, some (.int g4)), (5, some (.int g5)), (6, some (.int l6)), (7, some (.int l7)), (8, some (.int l8))] (by simp only [Subs]; repeat' first | exact trivial | constructor | rfl) hk
          · rw [if_neg c240] at hf
            refine V.aload_n dX12_laysWait_78 rfl ?_
            refine V.iload_n dX12_laysWait_79 rfl ?_
            obtain ⟨I272, hk271, hf⟩ := bnd_some hf
            try dsimp only at hf
            refine V.inv cv_X12_277 (c_r_sitsOwn hs_z hk271) dX12_laysWait_80 (hs_z.1 0 (12, 0) rfl) (by decide) rfl rfl rfl (Nat.le_of_ble_eq_true rfl) (by decide) (by decide) (Nat.le_refl _) (Nat.le_refl _) (fun _ _ hq => ?_)
            obtain ⟨rfl, rfl⟩ := hq
            refine V.aload_n dX12_laysWait_83 rfl ?_
            refine V.getr fl_X12_13 dX12_laysWait_84 (hs_z.1 0 (12, 0) rfl) (hs_z.2 0 1 1 rfl) (by decide) rfl ?_
            refine V.bipush (v := 32) dX12_laysWait_87 (by decide) ?_
            refine V.iald dX12_laysWait_89 (hs_z.1 1 (20, 3891) rfl) (vp_lit (by decide)) ?_
            refine V.if_ne 96 dX12_laysWait_90 (by decide) (fun c273 => ?_) (fun c273 => ?_)
            · rw [if_neg c273] at hf
              refine V.aload_n dX12_laysWait_96 rfl ?_
              refine V.iload_n dX12_laysWait_97 rfl ?_
              obtain ⟨⟨u276, I277⟩, hk275, hf⟩ := bnd_some hf
              try dsimp only at hf
              refine V.inv cv_X12_267 (c_r_plays hs_z hk275) dX12_laysWait_98 (hs_z.1 0 (12, 0) rfl) (by decide) rfl rfl rfl (Nat.le_of_ble_eq_true rfl) (by decide) (by decide) (Nat.le_refl _) (Nat.le_refl _) (fun _ _ hq => ?_)
              obtain ⟨rfl, rfl⟩ := hq
              try dsimp only
              refine V.pop dX12_laysWait_101 rfl ?_
              refine V.iload dX12_laysWait_102 rfl ?_
              refine V.aload_n dX12_laysWait_104 rfl ?_
              refine V.iload_n dX12_laysWait_105 rfl ?_
              obtain ⟨u280, hk279, hf⟩ := bnd_some hf
              try dsimp only at hf
              refine V.inv cv_X12_218 (c_r_isUp hs_z hk279) dX12_laysWait_106 (hs_z.1 0 (12, 0) rfl) (by decide) rfl rfl rfl (Nat.le_of_ble_eq_true rfl) (by decide) (by decide) (Nat.le_refl _) (Nat.le_refl _) (fun _ _ hq => ?_)
              obtain ⟨rfl, rfl⟩ := hq
              refine V.if_eq 116 dX12_laysWait_109 (by decide) (fun c281 => ?_) (fun c281 => ?_)
              · rw [if_pos c281] at hf
                refine V.iconst (v := 0) dX12_laysWait_116 (by decide) ?_
                refine V.iadd dX12_laysWait_117 ?_
                refine V.istore dX12_laysWait_118 (by decide) (by first | exact rfl | exact trivial) ?_
                obtain ⟨x282, e283⟩ : ∃ zz_, zz_ = (l6 + 0) := ⟨_, rfl⟩
                rw [← e283] at hf ⊢
                try dsimp only at hf
                refine V.iload dX12_laysWait_120 rfl ?_
                refine V.aload_n dX12_laysWait_122 rfl ?_
                refine V.iload_n dX12_laysWait_123 rfl ?_
                obtain ⟨u286, hk285, hf⟩ := bnd_some hf
                try dsimp only at hf
                refine V.inv cv_X12_218 (c_r_isUp hs_z hk285) dX12_laysWait_124 (hs_z.1 0 (12, 0) rfl) (by decide) rfl rfl rfl (Nat.le_of_ble_eq_true rfl) (by decide) (by decide) (Nat.le_refl _) (Nat.le_refl _) (fun _ _ hq => ?_)
                obtain ⟨rfl, rfl⟩ := hq
                refine V.if_eq 134 dX12_laysWait_127 (by decide) (fun c287 => ?_) (fun c287 => ?_)
                · rw [if_pos c287] at hf
                  refine V.iconst (v := 0) dX12_laysWait_134 (by decide) ?_
                  refine V.iadd dX12_laysWait_135 ?_
                  refine V.istore dX12_laysWait_136 (by decide) (by first | exact rfl | exact trivial) ?_
                  obtain ⟨x288, e289⟩ : ∃ zz_, zz_ = (l7 + 0) := ⟨_, rfl⟩
                  rw [← e289] at hf ⊢
                  try dsimp only at hf
                  refine V.iinc (v := (l8 + 1)) dX12_laysWait_138 rfl rfl (by first | exact rfl | exact trivial) ?_
                  refine V.goto 43 dX12_laysWait_141 (by decide) ?_
                  exact V.lo [(0, some (.ref z)), (1, some (.int g1)), (2, some (.int g2)), (3, some (.int g3)), (4, some (.int g4)), (5, some (.int g5)), (6, some (.int x282)), (7, some (.int x288)), (8, some (.int (l8 + 1)))] (by simp only [Subs]; repeat' first | exact trivial | constructor | rfl) (ih _ _ _ _ hf hk)
                · rw [if_neg c287] at hf
                  refine V.iconst (v := 1) dX12_laysWait_130 (by decide) ?_
                  refine V.goto 135 dX12_laysWait_131 (by decide) ?_
                  refine V.iadd dX12_laysWait_135 ?_
                  refine V.istore dX12_laysWait_136 (by decide) (by first | exact rfl | exact trivial) ?_
                  obtain ⟨x290, e291⟩ : ∃ zz_, zz_ = (l7 + 1) := ⟨_, rfl⟩
                  rw [← e291] at hf ⊢
                  try dsimp only at hf
                  refine V.iinc (v := (l8 + 1)) dX12_laysWait_138 rfl rfl (by first | exact rfl | exact trivial) ?_
                  refine V.goto 43 dX12_laysWait_141 (by decide) ?_
                  exact V.lo [(0, some (.ref z)), (1, some (.int g1)), (2, some (.int g2)), (3, some (.int g3)), (4, some (.int g4)), (5, some (.int g5)), (6, some (.int x282)), (7, some (.int x290)), (8, some (.int (l8 + 1)))] (by simp only [Subs]; repeat' first | exact trivial | constructor | rfl) (ih _ _ _ _ hf hk)
              · rw [if_neg c281] at hf
                refine V.iconst (v := 1) dX12_laysWait_112 (by decide) ?_
                refine V.goto 117 dX12_laysWait_113 (by decide) ?_
                refine V.iadd dX12_laysWait_117 ?_
                refine V.istore dX12_laysWait_118 (by decide) (by first | exact rfl | exact trivial) ?_
                obtain ⟨x292, e293⟩ : ∃ zz_, zz_ = (l6 + 1) := ⟨_, rfl⟩
                rw [← e293] at hf ⊢
                try dsimp only at hf
                refine V.iload dX12_laysWait_120 rfl ?_
                refine V.aload_n dX12_laysWait_122 rfl ?_
                refine V.iload_n dX12_laysWait_123 rfl ?_
                obtain ⟨u296, hk295, hf⟩ := bnd_some hf
                try dsimp only at hf
                refine V.inv cv_X12_218 (c_r_isUp hs_z hk295) dX12_laysWait_124 (hs_z.1 0 (12, 0) rfl) (by decide) rfl rfl rfl (Nat.le_of_ble_eq_true rfl) (by decide) (by decide) (Nat.le_refl _) (Nat.le_refl _) (fun _ _ hq => ?_)
                obtain ⟨rfl, rfl⟩ := hq
                refine V.if_eq 134 dX12_laysWait_127 (by decide) (fun c297 => ?_) (fun c297 => ?_)
                · rw [if_pos c297] at hf
                  refine V.iconst (v := 0) dX12_laysWait_134 (by decide) ?_
                  refine V.iadd dX12_laysWait_135 ?_
                  refine V.istore dX12_laysWait_136 (by decide) (by first | exact rfl | exact trivial) ?_
                  obtain ⟨x298, e299⟩ : ∃ zz_, zz_ = (l7 + 0) := ⟨_, rfl⟩
                  rw [← e299] at hf ⊢
                  try dsimp only at hf
                  refine V.iinc (v := (l8 + 1)) dX12_laysWait_138 rfl rfl (by first | exact rfl | exact trivial) ?_
                  refine V.goto 43 dX12_laysWait_141 (by decide) ?_
                  exact V.lo [(0, some (.ref z)), (1, some (.int g1)), (2, some (.int g2)), (3, some (.int g3)), (4, some (.int g4)), (5, some (.int g5)), (6, some (.int x292)), (7, some (.int x298)), (8, some (.int (l8 + 1)))] (by simp only [Subs]; repeat' first | exact trivial | constructor | rfl) (ih _ _ _ _ hf hk)
                · rw [if_neg c297] at hf
                  refine V.iconst (v := 1) dX12_laysWait_130 (by decide) ?_
                  refine V.goto 135 dX12_laysWait_131 (by decide) ?_
                  refine V.iadd dX12_laysWait_135 ?_
                  refine V.istore dX12_laysWait_136 (by decide) (by first | exact rfl | exact trivial) ?_
                  obtain ⟨x300, e301⟩ : ∃ zz_, zz_ = (l7 + 1) := ⟨_, rfl⟩
                  rw [← e301] at hf ⊢
                  try dsimp only at hf
                  refine V.iinc (v := (l8 + 1)) dX12_laysWait_138 rfl rfl (by first | exact rfl | exact trivial) ?_
                  refine V.goto 43 dX12_laysWait_141 (by decide) ?_
                  exact V.lo [(0, some (.ref z)), (1, some (.int g1)), (2, some (.int g2)), (3, some (.int g3)), (4, some (.int g4)), (5, some (.int g5)), (6, some (.int x292)), (7, some (.int x300)), (8, some (.int (l8 + 1)))] (by simp only [Subs]; repeat' first | exact trivial | constructor | rfl) (ih _ _ _ _ hf hk)
            · rw [if_pos c273] at hf
              refine V.goto 144 dX12_laysWait_93 (by decide) ?_
              obtain rfl := Option.some.inj hf
              exact V.lo [(0, some (.ref z)), (1, some (.int g1)), (2, some (.int g2)), (3, some (.int g3)), (4, some (.int g4)), (5, some (.int g5)), (6, some (.int l6)), (7, some (.int l7)), (8, some (.int l8))] (by simp only [Subs]; repeat' first | exact trivial | constructor | rfl) hk
theorem c_r_laysWait {l : Launch} {D : va_G} {E : Nat → ClassId} {B : Nat → Prop} {n F : Nat} {T : Nat → Option (Nat × Nat)} {I : Nat → Nat → Int32} {J : Nat → Nat → Int64} {P : Nat → Nat → Option Nat} {z : Nat} {v1 : Int32} {v2 : Int32} {v3 : Int32} {v4 : Int32} {v5 : Int32} {r : (Nat → Nat → Int32)} (hs_z : isMd T P z) (hf : r_laysWait F I z v1 v2 v3 v4 v5 = some r) : Ct l D E B yX12_laysWait cX12_laysWait 9 none 6 0 0 [.ref z, .int v1, .int v2, .int v3, .int v4, .int v5] (n, T, I, J, P) (Ret (none) (n, T, r, J, P)) := by
  unfold r_laysWait at hf
  refine Ct.ofV (by decide) (Nat.le_of_ble_eq_true rfl) ?_
  refine V.aload_n dX12_laysWait_0 rfl ?_
  refine V.getr fl_X12_13 dX12_laysWait_1 (hs_z.1 0 (12, 0) rfl) (hs_z.2 0 1 1 rfl) (by decide) rfl ?_
  refine V.bipush (v := 32) dX12_laysWait_4 (by decide) ?_
  refine V.iconst (v := 1) dX12_laysWait_6 (by decide) ?_
  refine V.iload_n dX12_laysWait_7 rfl ?_
  refine V.ishl dX12_laysWait_8 ?_
  refine V.iconst (v := 1) dX12_laysWait_9 (by decide) ?_
  refine V.iload_n dX12_laysWait_10 rfl ?_
  refine V.ishl dX12_laysWait_11 ?_
  refine V.ior dX12_laysWait_12 ?_
  refine V.iastE dX12_laysWait_13 (hs_z.1 1 (20, 3891) rfl) (vp_lit (by decide)) (fun I1 e2 => ?_)
  rw [← e2] at hf
  try dsimp only at hf
  clear e2
  refine V.aload_n dX12_laysWait_14 rfl ?_
  refine V.getr fl_X12_13 dX12_laysWait_15 (hs_z.1 0 (12, 0) rfl) (hs_z.2 0 1 1 rfl) (by decide) rfl ?_
  refine V.bipush (v := 47) dX12_laysWait_18 (by decide) ?_
  refine V.iload_n dX12_laysWait_20 rfl ?_
  refine V.iadd dX12_laysWait_21 ?_
  refine V.iconst (v := 0) dX12_laysWait_22 (by decide) ?_
  obtain ⟨hb3, hf⟩ := chk_some hf
  refine V.iastE dX12_laysWait_23 (hs_z.1 1 (20, 3891) rfl) hb3 (fun I4 e5 => ?_)
  rw [← e5] at hf
  try dsimp only at hf
  clear e5
  refine V.aload_n dX12_laysWait_24 rfl ?_
  refine V.getr fl_X12_13 dX12_laysWait_25 (hs_z.1 0 (12, 0) rfl) (hs_z.2 0 1 1 rfl) (by decide) rfl ?_
  refine V.bipush (v := 47) dX12_laysWait_28 (by decide) ?_
  refine V.iload_n dX12_laysWait_30 rfl ?_
  refine V.iadd dX12_laysWait_31 ?_
  refine V.iconst (v := 0) dX12_laysWait_32 (by decide) ?_
  obtain ⟨hb6, hf⟩ := chk_some hf
  refine V.iastE dX12_laysWait_33 (hs_z.1 1 (20, 3891) rfl) hb6 (fun I7 e8 => ?_)
  rw [← e8] at hf
  try dsimp only at hf
  clear e8
  refine V.iconst (v := 0) dX12_laysWait_34 (by decide) ?_
  refine V.istore dX12_laysWait_35 (by decide) (by first | exact rfl | exact trivial) ?_
  refine V.iconst (v := 0) dX12_laysWait_37 (by decide) ?_
  refine V.istore dX12_laysWait_38 (by decide) (by first | exact rfl | exact trivial) ?_
  refine V.iconst (v := 0) dX12_laysWait_40 (by decide) ?_
  refine V.istore dX12_laysWait_41 (by decide) (by first | exact rfl | exact trivial) ?_
  obtain ⟨⟨m304, m305, m306, I307⟩, hk303, hf⟩ := bnd_some hf
  try dsimp only at hf
  refine V.lo [(0, some (.ref z)), (1, some (.int v1)), (2, some (.int v2)), (3, some (.int v3)), (4, some (.int v4)), (5, some (.int v5)), (6, some (.int 0)), (7, some (.int 0)), (8, some (.int 0))] (by simp only [Subs]; repeat' first | exact trivial | constructor | rfl) (l_r_laysWait_43 hs_z _ F _ _ _ _ hk303 ?_)
  try dsimp only
  refine V.aload_n dX12_laysWait_144 rfl ?_
  refine V.getr fl_X12_60 dX12_laysWait_145 (hs_z.1 0 (12, 0) rfl) (hs_z.2 0 30 15 rfl) (by decide) rfl ?_
  refine V.bipush (v := 21) dX12_laysWait_148 (by decide) ?_
  refine V.iload dX12_laysWait_150 rfl ?_
  refine V.imul dX12_laysWait_152 ?_
  refine V.iload dX12_laysWait_153 rfl ?_
  refine V.iadd dX12_laysWait_155 ?_
  refine V.aload_n dX12_laysWait_156 rfl ?_
  refine V.iload dX12_laysWait_157 rfl ?_
  refine V.iload dX12_laysWait_159 rfl ?_
  refine V.icmp_le 168 dX12_laysWait_161 (by decide) (fun c308 => ?_) (fun c308 => ?_)
  · rw [if_pos c308] at hf
    refine V.iconst (v := 1) dX12_laysWait_168 (by decide) ?_
    obtain ⟨u311, hk310, hf⟩ := bnd_some hf
    try dsimp only at hf
    refine V.inv cv_X12_358 (c_r_worthOf hs_z hk310) dX12_laysWait_169 (hs_z.1 0 (12, 0) rfl) (by decide) rfl rfl rfl (Nat.le_of_ble_eq_true rfl) (by decide) (by decide) (Nat.le_refl _) (Nat.le_refl _) (fun _ _ hq => ?_)
    obtain ⟨rfl, rfl⟩ := hq
    refine V.aload_n dX12_laysWait_172 rfl ?_
    refine V.getr fl_X12_13 dX12_laysWait_173 (hs_z.1 0 (12, 0) rfl) (hs_z.2 0 1 1 rfl) (by decide) rfl ?_
    refine V.bipush (v := 47) dX12_laysWait_176 (by decide) ?_
    refine V.iload_n dX12_laysWait_178 rfl ?_
    refine V.iadd dX12_laysWait_179 ?_
    refine V.iald dX12_laysWait_180 (hs_z.1 1 (20, 3891) rfl) hb3 ?_
    refine V.isub dX12_laysWait_181 ?_
    obtain ⟨hb312, hf⟩ := chk_some hf
    refine V.iastE dX12_laysWait_182 (hs_z.1 15 (20, 441) rfl) hb312 (fun I313 e314 => ?_)
    rw [← e314] at hf
    try dsimp only at hf
    clear e314
    refine V.aload_n dX12_laysWait_183 rfl ?_
    refine V.getr fl_X12_63 dX12_laysWait_184 (hs_z.1 0 (12, 0) rfl) (hs_z.2 0 31 16 rfl) (by decide) rfl ?_
    refine V.bipush (v := 21) dX12_laysWait_187 (by decide) ?_
    refine V.iload dX12_laysWait_189 rfl ?_
    refine V.imul dX12_laysWait_191 ?_
    refine V.iload dX12_laysWait_192 rfl ?_
    refine V.iadd dX12_laysWait_194 ?_
    refine V.aload_n dX12_laysWait_195 rfl ?_
    refine V.iload dX12_laysWait_196 rfl ?_
    refine V.iload dX12_laysWait_198 rfl ?_
    refine V.icmp_le 207 dX12_laysWait_200 (by decide) (fun c315 => ?_) (fun c315 => ?_)
    · rw [if_pos c315] at hf
      refine V.iconst (v := 1) dX12_laysWait_207 (by decide) ?_
      obtain ⟨u318, hk317, hf⟩ := bnd_some hf
      try dsimp only at hf
      refine V.inv cv_X12_358 (c_r_worthOf hs_z hk317) dX12_laysWait_208 (hs_z.1 0 (12, 0) rfl) (by decide) rfl rfl rfl (Nat.le_of_ble_eq_true rfl) (by decide) (by decide) (Nat.le_refl _) (Nat.le_refl _) (fun _ _ hq => ?_)
      obtain ⟨rfl, rfl⟩ := hq
      refine V.aload_n dX12_laysWait_211 rfl ?_
      refine V.getr fl_X12_13 dX12_laysWait_212 (hs_z.1 0 (12, 0) rfl) (hs_z.2 0 1 1 rfl) (by decide) rfl ?_
      refine V.bipush (v := 47) dX12_laysWait_215 (by decide) ?_
      refine V.iload_n dX12_laysWait_217 rfl ?_
      refine V.iadd dX12_laysWait_218 ?_
      refine V.iald dX12_laysWait_219 (hs_z.1 1 (20, 3891) rfl) hb6 ?_
      refine V.isub dX12_laysWait_220 ?_
      refine V.iastE dX12_laysWait_221 (hs_z.1 16 (20, 441) rfl) hb312 (fun I319 e320 => ?_)
      rw [← e320] at hf
      try dsimp only at hf
      clear e320
      refine V.aload_n dX12_laysWait_222 rfl ?_
      obtain ⟨I323, hk322, hf⟩ := bnd_some hf
      try dsimp only at hf
      refine V.inv cv_X12_327 (c_r_isAgain hs_z hk322) dX12_laysWait_223 (hs_z.1 0 (12, 0) rfl) (by decide) rfl rfl rfl (Nat.le_of_ble_eq_true rfl) (by decide) (by decide) (Nat.le_refl _) (Nat.le_refl _) (fun _ _ hq => ?_)
      obtain ⟨rfl, rfl⟩ := hq
      obtain rfl := Option.some.inj hf
      exact V.vret dX12_laysWait_226 rfl (Nat.le_refl _) (Nat.le_refl _) ⟨rfl, rfl⟩
    · rw [if_neg c315] at hf
      refine V.iconst (v := 0) dX12_laysWait_203 (by decide) ?_
      refine V.goto 208 dX12_laysWait_204 (by decide) ?_
      obtain ⟨u326, hk325, hf⟩ := bnd_some hf
      try dsimp only at hf
      refine V.inv cv_X12_358 (c_r_worthOf hs_z hk325) dX12_laysWait_208 (hs_z.1 0 (12, 0) rfl) (by decide) rfl rfl rfl (Nat.le_of_ble_eq_true rfl) (by decide) (by decide) (Nat.le_refl _) (Nat.le_refl _) (fun _ _ hq => ?_)
      obtain ⟨rfl, rfl⟩ := hq
      refine V.aload_n dX12_laysWait_211 rfl ?_
      refine V.getr fl_X12_13 dX12_laysWait_212 (hs_z.1 0 (12, 0) rfl) (hs_z.2 0 1 1 rfl) (by decide) rfl ?_
      refine V.bipush (v := 47) dX12_laysWait_215 (by decide) ?_
      refine V.iload_n dX12_laysWait_217 rfl ?_
      refine V.iadd dX12_laysWait_218 ?_
      refine V.iald dX12_laysWait_219 (hs_z.1 1 (20, 3891) rfl) hb6 ?_
      refine V.isub dX12_laysWait_220 ?_
      refine V.iastE dX12_laysWait_221 (hs_z.1 16 (20, 441) rfl) hb312 (fun I327 e328 => ?_)
      rw [← e328] at hf
      try dsimp only at hf
      clear e328
      refine V.aload_n dX12_laysWait_222 rfl ?_
      obtain ⟨I331, hk330, hf⟩ := bnd_some hf
      try dsimp only at hf
      refine V.inv cv_X12_327 (c_r_isAgain hs_z hk330) dX12_laysWait_223 (hs_z.1 0 (12, 0) rfl) (by decide) rfl rfl rfl (Nat.le_of_ble_eq_true rfl) (by decide) (by decide) (Nat.le_refl _) (Nat.le_refl _) (fun _ _ hq => ?_)
      obtain ⟨rfl, rfl⟩ := hq
      obtain rfl := Option.some.inj hf
      exact V.vret dX12_laysWait_226 rfl (Nat.le_refl _) (Nat.le_refl _) ⟨rfl, rfl⟩
  · rw [if_neg c308] at hf
    refine V.iconst (v := 0) dX12_laysWait_164 (by decide) ?_
    refine V.goto 169 dX12_laysWait_165 (by decide) ?_
    obtain ⟨u334, hk333, hf⟩ := bnd_some hf
    try dsimp only at hf
    refine V.inv cv_X12_358 (c_r_worthOf hs_z hk333) dX12_laysWait_169 (hs_z.1 0 (12, 0) rfl) (by decide) rfl rfl rfl (Nat.le_of_ble_eq_true rfl) (by decide) (by decide) (Nat.le_refl _) (Nat.le_refl _) (fun _ _ hq => ?_)
    obtain ⟨rfl, rfl⟩ := hq
    refine V.aload_n dX12_laysWait_172 rfl ?_
    refine V.getr fl_X12_13 dX12_laysWait_173 (hs_z.1 0 (12, 0) rfl) (hs_z.2 0 1 1 rfl) (by decide) rfl ?_
    refine V.bipush (v := 47) dX12_laysWait_176 (by decide) ?_
    refine V.iload_n dX12_laysWait_178 rfl ?_
    refine V.iadd dX12_laysWait_179 ?_
    refine V.iald dX12_laysWait_180 (hs_z.1 1 (20, 3891) rfl) hb3 ?_
    refine V.isub dX12_laysWait_181 ?_
    obtain ⟨hb335, hf⟩ := chk_some hf
    refine V.iastE dX12_laysWait_182 (hs_z.1 15 (20, 441) rfl) hb335 (fun I336 e337 => ?_)
    rw [← e337] at hf
    try dsimp only at hf
    clear e337
    refine V.aload_n dX12_laysWait_183 rfl ?_
    refine V.getr fl_X12_63 dX12_laysWait_184 (hs_z.1 0 (12, 0) rfl) (hs_z.2 0 31 16 rfl) (by decide) rfl ?_
    refine V.bipush (v := 21) dX12_laysWait_187 (by decide) ?_
    refine V.iload dX12_laysWait_189 rfl ?_
    refine V.imul dX12_laysWait_191 ?_
    refine V.iload dX12_laysWait_192 rfl ?_
    refine V.iadd dX12_laysWait_194 ?_
    refine V.aload_n dX12_laysWait_195 rfl ?_
    refine V.iload dX12_laysWait_196 rfl ?_
    refine V.iload dX12_laysWait_198 rfl ?_
    refine V.icmp_le 207 dX12_laysWait_200 (by decide) (fun c338 => ?_) (fun c338 => ?_)
    · rw [if_pos c338] at hf
      refine V.iconst (v := 1) dX12_laysWait_207 (by decide) ?_
      obtain ⟨u341, hk340, hf⟩ := bnd_some hf
      try dsimp only at hf
      refine V.inv cv_X12_358 (c_r_worthOf hs_z hk340) dX12_laysWait_208 (hs_z.1 0 (12, 0) rfl) (by decide) rfl rfl rfl (Nat.le_of_ble_eq_true rfl) (by decide) (by decide) (Nat.le_refl _) (Nat.le_refl _) (fun _ _ hq => ?_)
      obtain ⟨rfl, rfl⟩ := hq
      refine V.aload_n dX12_laysWait_211 rfl ?_
      refine V.getr fl_X12_13 dX12_laysWait_212 (hs_z.1 0 (12, 0) rfl) (hs_z.2 0 1 1 rfl) (by decide) rfl ?_
      refine V.bipush (v := 47) dX12_laysWait_215 (by decide) ?_
      refine V.iload_n dX12_laysWait_217 rfl ?_
      refine V.iadd dX12_laysWait_218 ?_
      refine V.iald dX12_laysWait_219 (hs_z.1 1 (20, 3891) rfl) hb6 ?_
      refine V.isub dX12_laysWait_220 ?_
      refine V.iastE dX12_laysWait_221 (hs_z.1 16 (20, 441) rfl) hb335 (fun I342 e343 => ?_)
      rw [← e343] at hf
      try dsimp only at hf
      clear e343
      refine V.aload_n dX12_laysWait_222 rfl ?_
      obtain ⟨I346, hk345, hf⟩ := bnd_some hf
      try dsimp only at hf
      refine V.inv cv_X12_327 (c_r_isAgain hs_z hk345) dX12_laysWait_223 (hs_z.1 0 (12, 0) rfl) (by decide) rfl rfl rfl (Nat.le_of_ble_eq_true rfl) (by decide) (by decide) (Nat.le_refl _) (Nat.le_refl _) (fun _ _ hq => ?_)
      obtain ⟨rfl, rfl⟩ := hq
      obtain rfl := Option.some.inj hf
      exact V.vret dX12_laysWait_226 rfl (Nat.le_refl _) (Nat.le_refl _) ⟨rfl, rfl⟩
    · rw [if_neg c338] at hf
      refine V.iconst (v := 0) dX12_laysWait_203 (by decide) ?_
      refine V.goto 208 dX12_laysWait_204 (by decide) ?_
      obtain ⟨u349, hk348, hf⟩ := bnd_some hf
      try dsimp only at hf
      refine V.inv cv_X12_358 (c_r_worthOf hs_z hk348) dX12_laysWait_208 (hs_z.1 0 (12, 0) rfl) (by decide) rfl rfl rfl (Nat.le_of_ble_eq_true rfl) (by decide) (by decide) (Nat.le_refl _) (Nat.le_refl _) (fun _ _ hq => ?_)
      obtain ⟨rfl, rfl⟩ := hq
      refine V.aload_n dX12_laysWait_211 rfl ?_
      refine V.getr fl_X12_13 dX12_laysWait_212 (hs_z.1 0 (12, 0) rfl) (hs_z.2 0 1 1 rfl) (by decide) rfl ?_
      refine V.bipush (v := 47) dX12_laysWait_215 (by decide) ?_
      refine V.iload_n dX12_laysWait_217 rfl ?_
      refine V.iadd dX12_laysWait_218 ?_
      refine V.iald dX12_laysWait_219 (hs_z.1 1 (20, 3891) rfl) hb6 ?_
      refine V.isub dX12_laysWait_220 ?_
      refine V.iastE dX12_laysWait_221 (hs_z.1 16 (20, 441) rfl) hb335 (fun I350 e351 => ?_)
      rw [← e351] at hf
      try dsimp only at hf
      clear e351
      refine V.aload_n dX12_laysWait_222 rfl ?_
      obtain ⟨I354, hk353, hf⟩ := bnd_some hf
      try dsimp only at hf
      refine V.inv cv_X12_327 (c_r_isAgain hs_z hk353) dX12_laysWait_223 (hs_z.1 0 (12, 0) rfl) (by decide) rfl rfl rfl (Nat.le_of_ble_eq_true rfl) (by decide) (by decide) (Nat.le_refl _) (Nat.le_refl _) (fun _ _ hq => ?_)
      obtain ⟨rfl, rfl⟩ := hq
      obtain rfl := Option.some.inj hf
      exact V.vret dX12_laysWait_226 rfl (Nat.le_refl _) (Nat.le_refl _) ⟨rfl, rfl⟩
theorem dX12_isRest_0 : decode cX12_isRest 0 = .ok (.iconst 0, 1) := by decide +kernel
theorem dX12_isRest_1 : decode cX12_isRest 1 = .ok (.istore 4, 2) := by decide +kernel
theorem dX12_isRest_3 : decode cX12_isRest 3 = .ok (.iload 4, 2) := by decide +kernel
theorem dX12_isRest_5 : decode cX12_isRest 5 = .ok (.iload_n 3, 1) := by decide +kernel
theorem dX12_isRest_6 : decode cX12_isRest 6 = .ok (.if_icmp .gt 63, 3) := by decide +kernel
theorem dX12_isRest_9 : decode cX12_isRest 9 = .ok (.aload_n 0, 1) := by decide +kernel
theorem dX12_isRest_10 : decode cX12_isRest 10 = .ok (.getfield 60, 3) := by decide +kernel
theorem dX12_isRest_13 : decode cX12_isRest 13 = .ok (.bipush 21, 2) := by decide +kernel
theorem dX12_isRest_15 : decode cX12_isRest 15 = .ok (.iload 4, 2) := by decide +kernel
theorem dX12_isRest_17 : decode cX12_isRest 17 = .ok (.imul, 1) := by decide +kernel
theorem dX12_isRest_18 : decode cX12_isRest 18 = .ok (.iload_n 2, 1) := by decide +kernel
theorem dX12_isRest_19 : decode cX12_isRest 19 = .ok (.iadd, 1) := by decide +kernel
theorem dX12_isRest_20 : decode cX12_isRest 20 = .ok (.iaload, 1) := by decide +kernel
theorem dX12_isRest_21 : decode cX12_isRest 21 = .ok (.aload_n 0, 1) := by decide +kernel
theorem dX12_isRest_22 : decode cX12_isRest 22 = .ok (.getfield 60, 3) := by decide +kernel
theorem dX12_isRest_25 : decode cX12_isRest 25 = .ok (.bipush 21, 2) := by decide +kernel
theorem dX12_isRest_27 : decode cX12_isRest 27 = .ok (.iload_n 1, 1) := by decide +kernel
theorem dX12_isRest_28 : decode cX12_isRest 28 = .ok (.imul, 1) := by decide +kernel
theorem dX12_isRest_29 : decode cX12_isRest 29 = .ok (.iload_n 2, 1) := by decide +kernel
theorem dX12_isRest_30 : decode cX12_isRest 30 = .ok (.iadd, 1) := by decide +kernel
theorem dX12_isRest_31 : decode cX12_isRest 31 = .ok (.iaload, 1) := by decide +kernel
theorem dX12_isRest_32 : decode cX12_isRest 32 = .ok (.if_icmp .gt 29, 3) := by decide +kernel
theorem dX12_isRest_35 : decode cX12_isRest 35 = .ok (.aload_n 0, 1) := by decide +kernel
theorem dX12_isRest_36 : decode cX12_isRest 36 = .ok (.getfield 63, 3) := by decide +kernel
theorem dX12_isRest_39 : decode cX12_isRest 39 = .ok (.bipush 21, 2) := by decide +kernel
theorem dX12_isRest_41 : decode cX12_isRest 41 = .ok (.iload_n 1, 1) := by decide +kernel
theorem dX12_isRest_42 : decode cX12_isRest 42 = .ok (.imul, 1) := by decide +kernel
theorem dX12_isRest_43 : decode cX12_isRest 43 = .ok (.iload 4, 2) := by decide +kernel
theorem dX12_isRest_45 : decode cX12_isRest 45 = .ok (.iadd, 1) := by decide +kernel
theorem dX12_isRest_46 : decode cX12_isRest 46 = .ok (.iaload, 1) := by decide +kernel
theorem dX12_isRest_47 : decode cX12_isRest 47 = .ok (.aload_n 0, 1) := by decide +kernel
theorem dX12_isRest_48 : decode cX12_isRest 48 = .ok (.getfield 63, 3) := by decide +kernel
theorem dX12_isRest_51 : decode cX12_isRest 51 = .ok (.bipush 21, 2) := by decide +kernel
theorem dX12_isRest_53 : decode cX12_isRest 53 = .ok (.iload_n 1, 1) := by decide +kernel
theorem dX12_isRest_54 : decode cX12_isRest 54 = .ok (.imul, 1) := by decide +kernel
theorem dX12_isRest_55 : decode cX12_isRest 55 = .ok (.iload_n 2, 1) := by decide +kernel
theorem dX12_isRest_56 : decode cX12_isRest 56 = .ok (.iadd, 1) := by decide +kernel
theorem dX12_isRest_57 : decode cX12_isRest 57 = .ok (.iaload, 1) := by decide +kernel
theorem dX12_isRest_58 : decode cX12_isRest 58 = .ok (.if_icmp .le 5, 3) := by decide +kernel
theorem dX12_isRest_61 : decode cX12_isRest 61 = .ok (.iconst 0, 1) := by decide +kernel
theorem dX12_isRest_62 : decode cX12_isRest 62 = .ok (.ireturn, 1) := by decide +kernel
theorem dX12_isRest_63 : decode cX12_isRest 63 = .ok (.iinc 4 1, 3) := by decide +kernel
theorem dX12_isRest_66 : decode cX12_isRest 66 = .ok (.goto (-63), 3) := by decide +kernel
theorem dX12_isRest_69 : decode cX12_isRest 69 = .ok (.iconst 1, 1) := by decide +kernel
theorem dX12_isRest_70 : decode cX12_isRest 70 = .ok (.ireturn, 1) := by decide +kernel
def r_isRest_3 (F : Nat) (I : Nat → Nat → Int32) (z : Nat) (g1 : Int32) (g2 : Int32) (g3 : Int32) : Nat → Int32 → Option ((Int32) ⊕ (Int32))
  | 0, _ => none
  | k + 1, l4 => if g3 < l4 then (some (.inr l4)) else (chk ((21 * l4) + g2) 441 (chk ((21 * g1) + g2) 441 (if (I (z + 15) (Int32.toNatClampNeg ((21 * g1) + g2))) < (I (z + 15) (Int32.toNatClampNeg ((21 * l4) + g2))) then (some (.inl 0)) else (chk ((21 * g1) + l4) 441 (if (I (z + 16) (Int32.toNatClampNeg ((21 * g1) + l4))) ≤ (I (z + 16) (Int32.toNatClampNeg ((21 * g1) + g2))) then (r_isRest_3 F I z g1 g2 g3 k (l4 + 1)) else (some (.inl 0)))))))
def r_isRest (F : Nat) (I : Nat → Nat → Int32) (z : Nat) (v1 : Int32) (v2 : Int32) (v3 : Int32) : Option (Int32) := (r_isRest_3 F I z v1 v2 v3 F 0).bind (fun q7 => match q7 with | .inl r0 => some r0 | .inr q0 => let m9 := q0; some 1)
theorem l_r_isRest_3 {l : Launch} {D : va_G} {E : Nat → ClassId} {B : Nat → Prop} {n F : Nat} {Q : Option Value → HT → Prop} {T : Nat → Option (Nat × Nat)} {I : Nat → Nat → Int32} {J : Nat → Nat → Int64} {P : Nat → Nat → Option Nat} {z : Nat} {g1 : Int32} {g2 : Int32} {g3 : Int32} (hs_z : isMd T P z)  (r : (Int32) ⊕ (Int32)) : ∀ (k : Nat) (l4 : Int32), r_isRest_3 F I z g1 g2 g3 k l4 = some r → (match r with | .inl r => Q (some (.int r)) (n, T, I, J, P) | .inr r => V l D E B yX12_isRest cX12_isRest 5 (some .boolean) 0 0 0 Q 0 0 (n, T, I, J, P) 69 [(0, some (.ref z)), (1, some (.int g1)), (2, some (.int g2)), (3, some (.int g3)), (4, some (.int r))] []) → V l D E B yX12_isRest cX12_isRest 5 (some .boolean) 0 0 0 Q 0 0 (n, T, I, J, P) 3 [(0, some (.ref z)), (1, some (.int g1)), (2, some (.int g2)), (3, some (.int g3)), (4, some (.int l4))] [] := by
  intro k
  induction k with
  | zero =>
    intro l4 hf hk
    cases hf
  | succ k ih =>
    intro l4 hf hk
    unfold r_isRest_3 at hf
    refine V.iload dX12_isRest_3 rfl ?_
    refine V.iload_n dX12_isRest_5 rfl ?_
    refine V.icmp_gt 69 dX12_isRest_6 (by decide) (fun c1 => ?_) (fun c1 => ?_)
    · rw [if_pos c1] at hf
      obtain rfl := Option.some.inj hf
      exact V.lo [(0, some (.ref z)), (1, some (.int g1)), (2, some (.int g2)), (3, some (.int g3)), (4, some (.int l4))] (by simp only [Subs]; repeat' first | exact trivial | constructor | rfl) hk
    · rw [if_neg c1] at hf
      refine V.aload_n dX12_isRest_9 rfl ?_
      refine V.getr fl_X12_60 dX12_isRest_10 (hs_z.1 0 (12, 0) rfl) (hs_z.2 0 30 15 rfl) (by decide) rfl ?_
      refine V.bipush (v := 21) dX12_isRest_13 (by decide) ?_
      refine V.iload dX12_isRest_15 rfl ?_
      refine V.imul dX12_isRest_17 ?_
      refine V.iload_n dX12_isRest_18 rfl ?_
      refine V.iadd dX12_isRest_19 ?_
      obtain ⟨hb2, hf⟩ := chk_some hf
      refine V.iald dX12_isRest_20 (hs_z.1 15 (20, 441) rfl) hb2 ?_
      refine V.aload_n dX12_isRest_21 rfl ?_
      refine V.getr fl_X12_60 dX12_isRest_22 (hs_z.1 0 (12, 0) rfl) (hs_z.2 0 30 15 rfl) (by decide) rfl ?_
      refine V.bipush (v := 21) dX12_isRest_25 (by decide) ?_
      refine V.iload_n dX12_isRest_27 rfl ?_
      refine V.imul dX12_isRest_28 ?_
      refine V.iload_n dX12_isRest_29 rfl ?_
      refine V.iadd dX12_isRest_30 ?_
      obtain ⟨hb3, hf⟩ := chk_some hf
      refine V.iald dX12_isRest_31 (hs_z.1 15 (20, 441) rfl) hb3 ?_
      refine V.icmp_gt 61 dX12_isRest_32 (by decide) (fun c4 => ?_) (fun c4 => ?_)
      · rw [if_pos c4] at hf
        refine V.iconst (v := 0) dX12_isRest_61 (by decide) ?_
        obtain rfl := Option.some.inj hf
        exact V.zret dX12_isRest_62 rfl rfl (Nat.le_refl _) (Nat.le_refl _) hk
      · rw [if_neg c4] at hf
        refine V.aload_n dX12_isRest_35 rfl ?_
        refine V.getr fl_X12_63 dX12_isRest_36 (hs_z.1 0 (12, 0) rfl) (hs_z.2 0 31 16 rfl) (by decide) rfl ?_
        refine V.bipush (v := 21) dX12_isRest_39 (by decide) ?_
        refine V.iload_n dX12_isRest_41 rfl ?_
        refine V.imul dX12_isRest_42 ?_
        refine V.iload dX12_isRest_43 rfl ?_
        refine V.iadd dX12_isRest_45 ?_
        obtain ⟨hb5, hf⟩ := chk_some hf
        refine V.iald dX12_isRest_46 (hs_z.1 16 (20, 441) rfl) hb5 ?_
        refine V.aload_n dX12_isRest_47 rfl ?_
        refine V.getr fl_X12_63 dX12_isRest_48 (hs_z.1 0 (12, 0) rfl) (hs_z.2 0 31 16 rfl) (by decide) rfl ?_
        refine V.bipush (v := 21) dX12_isRest_51 (by decide) ?_
        refine V.iload_n dX12_isRest_53 rfl ?_
        refine V.imul dX12_isRest_54 ?_
        refine V.iload_n dX12_isRest_55 rfl ?_
        refine V.iadd dX12_isRest_56 ?_
        refine V.iald dX12_isRest_57 (hs_z.1 16 (20, 441) rfl) hb3 ?_
        refine V.icmp_le 63 dX12_isRest_58 (by decide) (fun c6 => ?_) (fun c6 => ?_)
        · rw [if_pos c6] at hf
          refine V.iinc (v := (l4 + 1)) dX12_isRest_63 rfl rfl (by first | exact rfl | exact trivial) ?_
          refine V.goto 3 dX12_isRest_66 (by decide) ?_
          exact V.lo [(0, some (.ref z)), (1, some (.int g1)), (2, some (.int g2)), (3, some (.int g3)), (4, some (.int (l4 + 1)))] (by simp only [Subs]; repeat' first | exact trivial | constructor | rfl) (ih _ hf hk)
        · rw [if_neg c6] at hf
          refine V.iconst (v := 0) dX12_isRest_61 (by decide) ?_
          obtain rfl := Option.some.inj hf
          exact V.zret dX12_isRest_62 rfl rfl (Nat.le_refl _) (Nat.le_refl _) hk
theorem c_r_isRest {l : Launch} {D : va_G} {E : Nat → ClassId} {B : Nat → Prop} {n F : Nat} {T : Nat → Option (Nat × Nat)} {I : Nat → Nat → Int32} {J : Nat → Nat → Int64} {P : Nat → Nat → Option Nat} {z : Nat} {v1 : Int32} {v2 : Int32} {v3 : Int32} {r : Int32} (hs_z : isMd T P z) (hf : r_isRest F I z v1 v2 v3 = some r) : Ct l D E B yX12_isRest cX12_isRest 5 (some .boolean) 0 0 0 [.ref z, .int v1, .int v2, .int v3] (n, T, I, J, P) (Ret (some (.int r)) (n, T, I, J, P)) := by
  unfold r_isRest at hf
  refine Ct.ofV (by decide) (Nat.le_of_ble_eq_true rfl) ?_
  refine V.iconst (v := 0) dX12_isRest_0 (by decide) ?_
  refine V.istore dX12_isRest_1 (by decide) (by first | exact rfl | exact trivial) ?_
  obtain ⟨q7, hk8, hf⟩ := bnd_some hf
  refine V.lo [(0, some (.ref z)), (1, some (.int v1)), (2, some (.int v2)), (3, some (.int v3)), (4, some (.int 0))] (by simp only [Subs]; repeat' first | exact trivial | constructor | rfl) (l_r_isRest_3 hs_z q7 F _ hk8 ?_)
  rcases q7 with r0 | m9
  · try dsimp only at hf ⊢
    obtain rfl := Option.some.inj hf
    exact ⟨rfl, rfl⟩
  · try dsimp only at hf ⊢
    refine V.iconst (v := 1) dX12_isRest_69 (by decide) ?_
    obtain rfl := Option.some.inj hf
    exact V.zret dX12_isRest_70 rfl rfl (Nat.le_refl _) (Nat.le_refl _) ⟨rfl, rfl⟩
theorem dX12_laysRests_0 : decode cX12_laysRests 0 = .ok (.aload_n 0, 1) := by decide +kernel
theorem dX12_laysRests_1 : decode cX12_laysRests 1 = .ok (.invokevirtual 264, 3) := by decide +kernel
theorem dX12_laysRests_4 : decode cX12_laysRests 4 = .ok (.iconst 0, 1) := by decide +kernel
theorem dX12_laysRests_5 : decode cX12_laysRests 5 = .ok (.istore 6, 2) := by decide +kernel
theorem dX12_laysRests_7 : decode cX12_laysRests 7 = .ok (.iload 6, 2) := by decide +kernel
theorem dX12_laysRests_9 : decode cX12_laysRests 9 = .ok (.iload 4, 2) := by decide +kernel
theorem dX12_laysRests_11 : decode cX12_laysRests 11 = .ok (.if_icmp .gt 36, 3) := by decide +kernel
theorem dX12_laysRests_14 : decode cX12_laysRests 14 = .ok (.iconst 0, 1) := by decide +kernel
theorem dX12_laysRests_15 : decode cX12_laysRests 15 = .ok (.istore 7, 2) := by decide +kernel
theorem dX12_laysRests_17 : decode cX12_laysRests 17 = .ok (.iload 7, 2) := by decide +kernel
theorem dX12_laysRests_19 : decode cX12_laysRests 19 = .ok (.iload 4, 2) := by decide +kernel
theorem dX12_laysRests_21 : decode cX12_laysRests 21 = .ok (.if_icmp .gt 20, 3) := by decide +kernel
theorem dX12_laysRests_24 : decode cX12_laysRests 24 = .ok (.aload_n 0, 1) := by decide +kernel
theorem dX12_laysRests_25 : decode cX12_laysRests 25 = .ok (.iload_n 1, 1) := by decide +kernel
theorem dX12_laysRests_26 : decode cX12_laysRests 26 = .ok (.iload_n 2, 1) := by decide +kernel
theorem dX12_laysRests_27 : decode cX12_laysRests 27 = .ok (.iload_n 3, 1) := by decide +kernel
theorem dX12_laysRests_28 : decode cX12_laysRests 28 = .ok (.iload 6, 2) := by decide +kernel
theorem dX12_laysRests_30 : decode cX12_laysRests 30 = .ok (.iload 7, 2) := by decide +kernel
theorem dX12_laysRests_32 : decode cX12_laysRests 32 = .ok (.invokevirtual 417, 3) := by decide +kernel
theorem dX12_laysRests_35 : decode cX12_laysRests 35 = .ok (.iinc 7 1, 3) := by decide +kernel
theorem dX12_laysRests_38 : decode cX12_laysRests 38 = .ok (.goto (-21), 3) := by decide +kernel
theorem dX12_laysRests_41 : decode cX12_laysRests 41 = .ok (.iinc 6 1, 3) := by decide +kernel
theorem dX12_laysRests_44 : decode cX12_laysRests 44 = .ok (.goto (-37), 3) := by decide +kernel
theorem dX12_laysRests_47 : decode cX12_laysRests 47 = .ok (.iconst 0, 1) := by decide +kernel
theorem dX12_laysRests_48 : decode cX12_laysRests 48 = .ok (.istore 6, 2) := by decide +kernel
theorem dX12_laysRests_50 : decode cX12_laysRests 50 = .ok (.iconst 0, 1) := by decide +kernel
theorem dX12_laysRests_51 : decode cX12_laysRests 51 = .ok (.istore 7, 2) := by decide +kernel
theorem dX12_laysRests_53 : decode cX12_laysRests 53 = .ok (.iload 7, 2) := by decide +kernel
theorem dX12_laysRests_55 : decode cX12_laysRests 55 = .ok (.iload 4, 2) := by decide +kernel
theorem dX12_laysRests_57 : decode cX12_laysRests 57 = .ok (.if_icmp .gt 60, 3) := by decide +kernel
theorem dX12_laysRests_60 : decode cX12_laysRests 60 = .ok (.iconst 0, 1) := by decide +kernel
theorem dX12_laysRests_61 : decode cX12_laysRests 61 = .ok (.istore 8, 2) := by decide +kernel
theorem dX12_laysRests_63 : decode cX12_laysRests 63 = .ok (.iload 8, 2) := by decide +kernel
theorem dX12_laysRests_65 : decode cX12_laysRests 65 = .ok (.iload 4, 2) := by decide +kernel
theorem dX12_laysRests_67 : decode cX12_laysRests 67 = .ok (.if_icmp .gt 44, 3) := by decide +kernel
theorem dX12_laysRests_70 : decode cX12_laysRests 70 = .ok (.aload_n 0, 1) := by decide +kernel
theorem dX12_laysRests_71 : decode cX12_laysRests 71 = .ok (.iload 7, 2) := by decide +kernel
theorem dX12_laysRests_73 : decode cX12_laysRests 73 = .ok (.iload 8, 2) := by decide +kernel
theorem dX12_laysRests_75 : decode cX12_laysRests 75 = .ok (.iload 4, 2) := by decide +kernel
theorem dX12_laysRests_77 : decode cX12_laysRests 77 = .ok (.invokevirtual 421, 3) := by decide +kernel
theorem dX12_laysRests_80 : decode cX12_laysRests 80 = .ok (.ifCond .ne 6, 3) := by decide +kernel
theorem dX12_laysRests_83 : decode cX12_laysRests 83 = .ok (.goto 22, 3) := by decide +kernel
theorem dX12_laysRests_86 : decode cX12_laysRests 86 = .ok (.iload 6, 2) := by decide +kernel
theorem dX12_laysRests_88 : decode cX12_laysRests 88 = .ok (.iload 5, 2) := by decide +kernel
theorem dX12_laysRests_90 : decode cX12_laysRests 90 = .ok (.if_icmp .ne 12, 3) := by decide +kernel
theorem dX12_laysRests_93 : decode cX12_laysRests 93 = .ok (.bipush 100, 2) := by decide +kernel
theorem dX12_laysRests_95 : decode cX12_laysRests 95 = .ok (.iload 7, 2) := by decide +kernel
theorem dX12_laysRests_97 : decode cX12_laysRests 97 = .ok (.imul, 1) := by decide +kernel
theorem dX12_laysRests_98 : decode cX12_laysRests 98 = .ok (.iload 8, 2) := by decide +kernel
theorem dX12_laysRests_100 : decode cX12_laysRests 100 = .ok (.iadd, 1) := by decide +kernel
theorem dX12_laysRests_101 : decode cX12_laysRests 101 = .ok (.ireturn, 1) := by decide +kernel
theorem dX12_laysRests_102 : decode cX12_laysRests 102 = .ok (.iinc 6 1, 3) := by decide +kernel
theorem dX12_laysRests_105 : decode cX12_laysRests 105 = .ok (.iinc 8 1, 3) := by decide +kernel
theorem dX12_laysRests_108 : decode cX12_laysRests 108 = .ok (.goto (-45), 3) := by decide +kernel
theorem dX12_laysRests_111 : decode cX12_laysRests 111 = .ok (.iinc 7 1, 3) := by decide +kernel
theorem dX12_laysRests_114 : decode cX12_laysRests 114 = .ok (.goto (-61), 3) := by decide +kernel
theorem dX12_laysRests_117 : decode cX12_laysRests 117 = .ok (.iload 5, 2) := by decide +kernel
theorem dX12_laysRests_119 : decode cX12_laysRests 119 = .ok (.ifCond .ge 8, 3) := by decide +kernel
theorem dX12_laysRests_122 : decode cX12_laysRests 122 = .ok (.iload 6, 2) := by decide +kernel
theorem dX12_laysRests_124 : decode cX12_laysRests 124 = .ok (.goto 4, 3) := by decide +kernel
theorem dX12_laysRests_127 : decode cX12_laysRests 127 = .ok (.iconst (-1), 1) := by decide +kernel
theorem dX12_laysRests_128 : decode cX12_laysRests 128 = .ok (.ireturn, 1) := by decide +kernel
def r_laysRests_17 (F : Nat) (z : Nat) (g1 : Int32) (g2 : Int32) (g3 : Int32) (g4 : Int32) (g5 : Int32) (g6 : Int32) : Nat → Int32 → (Nat → Nat → Int32) → Option (Int32 × (Nat → Nat → Int32))
  | 0, _, _ => none
  | k + 1, l7, I => if g4 < l7 then (some (l7, I)) else ((r_laysWait F I z g1 g2 g3 g6 l7).bind (fun q6 => let I8 := q6; r_laysRests_17 F z g1 g2 g3 g4 g5 g6 k (l7 + 1) I8))
def r_laysRests_7 (F : Nat) (z : Nat) (g1 : Int32) (g2 : Int32) (g3 : Int32) (g4 : Int32) (g5 : Int32) : Nat → Int32 → (Nat → Nat → Int32) → Option (Int32 × (Nat → Nat → Int32))
  | 0, _, _ => none
  | k + 1, l6, I => if g4 < l6 then (some (l6, I)) else ((r_laysRests_17 F z g1 g2 g3 g4 g5 l6 F 0 I).bind (fun q9 => let m11 := q9.1; let I12 := q9.2; r_laysRests_7 F z g1 g2 g3 g4 g5 k (l6 + 1) I12))
def r_laysRests_63 (F : Nat) (I : Nat → Nat → Int32) (z : Nat) (g1 : Int32) (g2 : Int32) (g3 : Int32) (g4 : Int32) (g5 : Int32) (g7 : Int32) : Nat → Int32 → Int32 → Option ((Int32 × (Nat → Nat → Int32)) ⊕ (Int32 × Int32))
  | 0, _, _ => none
  | k + 1, l6, l8 => if g4 < l8 then (some (.inr (l6, l8))) else ((r_isRest F I z g7 l8 g4).bind (fun q19 => let u21 := q19; if u21 = 0 then (r_laysRests_63 F I z g1 g2 g3 g4 g5 g7 k l6 (l8 + 1)) else (if l6 = g5 then (some (.inl (((100 * g7) + l8), I))) else (r_laysRests_63 F I z g1 g2 g3 g4 g5 g7 k (l6 + 1) (l8 + 1)))))
def r_laysRests_53 (F : Nat) (I : Nat → Nat → Int32) (z : Nat) (g1 : Int32) (g2 : Int32) (g3 : Int32) (g4 : Int32) (g5 : Int32) : Nat → Int32 → Int32 → Option ((Int32 × (Nat → Nat → Int32)) ⊕ (Int32 × Int32))
  | 0, _, _ => none
  | k + 1, l6, l7 => if g4 < l7 then (some (.inr (l6, l7))) else ((r_laysRests_63 F I z g1 g2 g3 g4 g5 l7 F l6 0).bind (fun q24 => match q24 with | .inl r0 => some (.inl r0) | .inr q0 => let m26 := q0.1; let m27 := q0.2; r_laysRests_53 F I z g1 g2 g3 g4 g5 k m26 (l7 + 1)))
def r_laysRests (F : Nat) (I : Nat → Nat → Int32) (z : Nat) (v1 : Int32) (v2 : Int32) (v3 : Int32) (v4 : Int32) (v5 : Int32) : Option (Int32 × (Nat → Nat → Int32)) := (r_keeps F I z).bind (fun q1 => let I3 := q1; (r_laysRests_7 F z v1 v2 v3 v4 v5 F 0 I3).bind (fun q13 => let m15 := q13.1; let I16 := q13.2; (r_laysRests_53 F I16 z v1 v2 v3 v4 v5 F 0 0).bind (fun q28 => match q28 with | .inl r0 => some r0 | .inr q0 => let m30 := q0.1; let m31 := q0.2; if 0 ≤ v5 then (some ((-1), I16)) else (some (m30, I16)))))
theorem l_r_laysRests_17 {l : Launch} {D : va_G} {E : Nat → ClassId} {B : Nat → Prop} {n F : Nat} {Q : Option Value → HT → Prop} {T : Nat → Option (Nat × Nat)} {J : Nat → Nat → Int64} {P : Nat → Nat → Option Nat} {z : Nat} {g1 : Int32} {g2 : Int32} {g3 : Int32} {g4 : Int32} {g5 : Int32} {g6 : Int32} (hs_z : isMd T P z)  (r : Int32 × (Nat → Nat → Int32)) : ∀ (k : Nat) (l7 : Int32) (I : (Nat → Nat → Int32)), r_laysRests_17 F z g1 g2 g3 g4 g5 g6 k l7 I = some r → V l D E B yX12_laysRests cX12_laysRests 9 (some .int) 7 0 0 Q 0 0 (n, T, r.2, J, P) 41 [(0, some (.ref z)), (1, some (.int g1)), (2, some (.int g2)), (3, some (.int g3)), (4, some (.int g4)), (5, some (.int g5)), (6, some (.int g6)), (7, some (.int (r.1)))] [] → V l D E B yX12_laysRests cX12_laysRests 9 (some .int) 7 0 0 Q 0 0 (n, T, I, J, P) 17 [(0, some (.ref z)), (1, some (.int g1)), (2, some (.int g2)), (3, some (.int g3)), (4, some (.int g4)), (5, some (.int g5)), (6, some (.int g6)), (7, some (.int l7))] [] := by
  intro k
  induction k with
  | zero =>
    intro l7 I hf hk
    cases hf
  | succ k ih =>
    intro l7 I hf hk
    unfold r_laysRests_17 at hf
    refine V.iload dX12_laysRests_17 rfl ?_
    refine V.iload dX12_laysRests_19 rfl ?_
    refine V.icmp_gt 41 dX12_laysRests_21 (by decide) (fun c5 => ?_) (fun c5 => ?_)
    · rw [if_pos c5] at hf
      obtain rfl := Option.some.inj hf
      exact V.lo [(0, some (.ref z)), (1, some (.int g1)), (2, some (.int g2)), (3, some (.int g3)), (4, some (.int g4)), (5, some (.int g5)), (6, some (.int g6)), (7, some (.int l7))] (by simp only [Subs]; repeat' first | exact trivial | constructor | rfl) hk
    · rw [if_neg c5] at hf
      refine V.aload_n dX12_laysRests_24 rfl ?_
      refine V.iload_n dX12_laysRests_25 rfl ?_
      refine V.iload_n dX12_laysRests_26 rfl ?_
      refine V.iload_n dX12_laysRests_27 rfl ?_
      refine V.iload dX12_laysRests_28 rfl ?_
      refine V.iload dX12_laysRests_30 rfl ?_
      obtain ⟨I8, hk7, hf⟩ := bnd_some hf
      try dsimp only at hf
      refine V.inv cv_X12_417 (c_r_laysWait hs_z hk7) dX12_laysRests_32 (hs_z.1 0 (12, 0) rfl) (by decide) rfl rfl rfl (Nat.le_of_ble_eq_true rfl) (by decide) (by decide) (Nat.le_refl _) (Nat.le_refl _) (fun _ _ hq => ?_)
      obtain ⟨rfl, rfl⟩ := hq
      refine V.iinc (v := (l7 + 1)) dX12_laysRests_35 rfl rfl (by first | exact rfl | exact trivial) ?_
      refine V.goto 17 dX12_laysRests_38 (by decide) ?_
      exact V.lo [(0, some (.ref z)), (1, some (.int g1)), (2, some (.int g2)), (3, some (.int g3)), (4, some (.int g4)), (5, some (.int g5)), (6, some (.int g6)), (7, some (.int (l7 + 1)))] (by simp only [Subs]; repeat' first | exact trivial | constructor | rfl) (ih _ _ hf hk)
theorem l_r_laysRests_7 {l : Launch} {D : va_G} {E : Nat → ClassId} {B : Nat → Prop} {n F : Nat} {Q : Option Value → HT → Prop} {T : Nat → Option (Nat × Nat)} {J : Nat → Nat → Int64} {P : Nat → Nat → Option Nat} {z : Nat} {g1 : Int32} {g2 : Int32} {g3 : Int32} {g4 : Int32} {g5 : Int32} (hs_z : isMd T P z)  (r : Int32 × (Nat → Nat → Int32)) : ∀ (k : Nat) (l6 : Int32) (I : (Nat → Nat → Int32)), r_laysRests_7 F z g1 g2 g3 g4 g5 k l6 I = some r → V l D E B yX12_laysRests cX12_laysRests 9 (some .int) 7 0 0 Q 0 0 (n, T, r.2, J, P) 47 [(0, some (.ref z)), (1, some (.int g1)), (2, some (.int g2)), (3, some (.int g3)), (4, some (.int g4)), (5, some (.int g5)), (6, some (.int (r.1)))] [] → V l D E B yX12_laysRests cX12_laysRests 9 (some .int) 7 0 0 Q 0 0 (n, T, I, J, P) 7 [(0, some (.ref z)), (1, some (.int g1)), (2, some (.int g2)), (3, some (.int g3)), (4, some (.int g4)), (5, some (.int g5)), (6, some (.int l6))] [] := by
  intro k
  induction k with
  | zero =>
    intro l6 I hf hk
    cases hf
  | succ k ih =>
    intro l6 I hf hk
    unfold r_laysRests_7 at hf
    refine V.iload dX12_laysRests_7 rfl ?_
    refine V.iload dX12_laysRests_9 rfl ?_
    refine V.icmp_gt 47 dX12_laysRests_11 (by decide) (fun c4 => ?_) (fun c4 => ?_)
    · rw [if_pos c4] at hf
      obtain rfl := Option.some.inj hf
      exact V.lo [(0, some (.ref z)), (1, some (.int g1)), (2, some (.int g2)), (3, some (.int g3)), (4, some (.int g4)), (5, some (.int g5)), (6, some (.int l6))] (by simp only [Subs]; repeat' first | exact trivial | constructor | rfl) hk
    · rw [if_neg c4] at hf
      refine V.iconst (v := 0) dX12_laysRests_14 (by decide) ?_
      refine V.istore dX12_laysRests_15 (by decide) (by first | exact rfl | exact trivial) ?_
      obtain ⟨⟨m11, I12⟩, hk10, hf⟩ := bnd_some hf
      try dsimp only at hf
      refine V.lo [(0, some (.ref z)), (1, some (.int g1)), (2, some (.int g2)), (3, some (.int g3)), (4, some (.int g4)), (5, some (.int g5)), (6, some (.int l6)), (7, some (.int 0))] (by simp only [Subs]; repeat' first | exact trivial | constructor | rfl) (l_r_laysRests_17 hs_z _ F _ _ hk10 ?_)
      try dsimp only
      refine V.iinc (v := (l6 + 1)) dX12_laysRests_41 rfl rfl (by first | exact rfl | exact trivial) ?_
      refine V.goto 7 dX12_laysRests_44 (by decide) ?_
      exact V.lo [(0, some (.ref z)), (1, some (.int g1)), (2, some (.int g2)), (3, some (.int g3)), (4, some (.int g4)), (5, some (.int g5)), (6, some (.int (l6 + 1)))] (by simp only [Subs]; repeat' first | exact trivial | constructor | rfl) (ih _ _ hf hk)
theorem l_r_laysRests_63 {l : Launch} {D : va_G} {E : Nat → ClassId} {B : Nat → Prop} {n F : Nat} {Q : Option Value → HT → Prop} {T : Nat → Option (Nat × Nat)} {I : Nat → Nat → Int32} {J : Nat → Nat → Int64} {P : Nat → Nat → Option Nat} {z : Nat} {g1 : Int32} {g2 : Int32} {g3 : Int32} {g4 : Int32} {g5 : Int32} {g7 : Int32} (hs_z : isMd T P z)  (r : (Int32 × (Nat → Nat → Int32)) ⊕ (Int32 × Int32)) : ∀ (k : Nat) (l6 : Int32) (l8 : Int32), r_laysRests_63 F I z g1 g2 g3 g4 g5 g7 k l6 l8 = some r → (match r with | .inl r => Q (some (.int r.1)) (n, T, r.2, J, P) | .inr r => V l D E B yX12_laysRests cX12_laysRests 9 (some .int) 7 0 0 Q 0 0 (n, T, I, J, P) 111 [(0, some (.ref z)), (1, some (.int g1)), (2, some (.int g2)), (3, some (.int g3)), (4, some (.int g4)), (5, some (.int g5)), (6, some (.int (r.1))), (7, some (.int g7)), (8, some (.int (r.2)))] []) → V l D E B yX12_laysRests cX12_laysRests 9 (some .int) 7 0 0 Q 0 0 (n, T, I, J, P) 63 [(0, some (.ref z)), (1, some (.int g1)), (2, some (.int g2)), (3, some (.int g3)), (4, some (.int g4)), (5, some (.int g5)), (6, some (.int l6)), (7, some (.int g7)), (8, some (.int l8))] [] := by
  intro k
  induction k with
  | zero =>
    intro l6 l8 hf hk
    cases hf
  | succ k ih =>
    intro l6 l8 hf hk
    unfold r_laysRests_63 at hf
    refine V.iload dX12_laysRests_63 rfl ?_
    refine V.iload dX12_laysRests_65 rfl ?_
    refine V.icmp_gt 111 dX12_laysRests_67 (by decide) (fun c18 => ?_) (fun c18 => ?_)
    · rw [if_pos c18] at hf
      obtain rfl := Option.some.inj hf
      exact V.lo [(0, some (.ref z)), (1, some (.int g1)), (2, some (.int g2)), (3, some (.int g3)), (4, some (.int g4)), (5, some (.int g5)), (6, some (.int l6)), (7, some (.int g7)), (8, some (.int l8))] (by simp only [Subs]; repeat' first | exact trivial | constructor | rfl) hk
    · rw [if_neg c18] at hf
      refine V.aload_n dX12_laysRests_70 rfl ?_
      refine V.iload dX12_laysRests_71 rfl ?_
      refine V.iload dX12_laysRests_73 rfl ?_
      refine V.iload dX12_laysRests_75 rfl ?_
      obtain ⟨u21, hk20, hf⟩ := bnd_some hf
      try dsimp only at hf
      refine V.inv cv_X12_421 (c_r_isRest hs_z hk20) dX12_laysRests_77 (hs_z.1 0 (12, 0) rfl) (by decide) rfl rfl rfl (Nat.le_of_ble_eq_true rfl) (by decide) (by decide) (Nat.le_refl _) (Nat.le_refl _) (fun _ _ hq => ?_)
      obtain ⟨rfl, rfl⟩ := hq
      refine V.if_ne 86 dX12_laysRests_80 (by decide) (fun c22 => ?_) (fun c22 => ?_)
      · rw [if_neg c22] at hf
        refine V.iload dX12_laysRests_86 rfl ?_
        refine V.iload dX12_laysRests_88 rfl ?_
        refine V.icmp_ne 102 dX12_laysRests_90 (by decide) (fun c23 => ?_) (fun c23 => ?_)
        · rw [if_neg c23] at hf
          refine V.iinc (v := (l6 + 1)) dX12_laysRests_102 rfl rfl (by first | exact rfl | exact trivial) ?_
          refine V.iinc (v := (l8 + 1)) dX12_laysRests_105 rfl rfl (by first | exact rfl | exact trivial) ?_
          refine V.goto 63 dX12_laysRests_108 (by decide) ?_
          exact V.lo [(0, some (.ref z)), (1, some (.int g1)), (2, some (.int g2)), (3, some (.int g3)), (4, some (.int g4)), (5, some (.int g5)), (6, some (.int (l6 + 1))), (7, some (.int g7)), (8, some (.int (l8 + 1)))] (by simp only [Subs]; repeat' first | exact trivial | constructor | rfl) (ih _ _ hf hk)
        · rw [if_pos c23] at hf
          refine V.bipush (v := 100) dX12_laysRests_93 (by decide) ?_
          refine V.iload dX12_laysRests_95 rfl ?_
          refine V.imul dX12_laysRests_97 ?_
          refine V.iload dX12_laysRests_98 rfl ?_
          refine V.iadd dX12_laysRests_100 ?_
          obtain rfl := Option.some.inj hf
          exact V.iret dX12_laysRests_101 rfl (Nat.le_refl _) (Nat.le_refl _) hk
      · rw [if_pos c22] at hf
        refine V.goto 105 dX12_laysRests_83 (by decide) ?_
        refine V.iinc (v := (l8 + 1)) dX12_laysRests_105 rfl rfl (by first | exact rfl | exact trivial) ?_
        refine V.goto 63 dX12_laysRests_108 (by decide) ?_
        exact V.lo [(0, some (.ref z)), (1, some (.int g1)), (2, some (.int g2)), (3, some (.int g3)), (4, some (.int g4)), (5, some (.int g5)), (6, some (.int l6)), (7, some (.int g7)), (8, some (.int (l8 + 1)))] (by simp only [Subs]; repeat' first | exact trivial | constructor | rfl) (ih _ _ hf hk)
theorem l_r_laysRests_53 {l : Launch} {D : va_G} {E : Nat → ClassId} {B : Nat → Prop} {n F : Nat} {Q : Option Value → HT → Prop} {T : Nat → Option (Nat × Nat)} {I : Nat → Nat → Int32} {J : Nat → Nat → Int64} {P : Nat → Nat → Option Nat} {z : Nat} {g1 : Int32} {g2 : Int32} {g3 : Int32} {g4 : Int32} {g5 : Int32} (hs_z : isMd T P z)  (r : (Int32 × (Nat → Nat → Int32)) ⊕ (Int32 × Int32)) : ∀ (k : Nat) (l6 : Int32) (l7 : Int32), r_laysRests_53 F I z g1 g2 g3 g4 g5 k l6 l7 = some r → (match r with | .inl r => Q (some (.int r.1)) (n, T, r.2, J, P) | .inr r => V l D E B yX12_laysRests cX12_laysRests 9 (some .int) 7 0 0 Q 0 0 (n, T, I, J, P) 117 [(0, some (.ref z)), (1, some (.int g1)), (2, some (.int g2)), (3, some (.int g3)), (4, some (.int g4)), (5, some (.int g5)), (6, some (.int (r.1))), (7, some (.int (r.2)))] []) → V l D E B yX12_laysRests cX12_laysRests 9 (some .int) 7 0 0 Q 0 0 (n, T, I, J, P) 53 [(0, some (.ref z)), (1, some (.int g1)), (2, some (.int g2)), (3, some (.int g3)), (4, some (.int g4)), (5, some (.int g5)), (6, some (.int l6)), (7, some (.int l7))] [] := by
  intro k
  induction k with
  | zero =>
    intro l6 l7 hf hk
    cases hf
  | succ k ih =>
    intro l6 l7 hf hk
    unfold r_laysRests_53 at hf
    refine V.iload dX12_laysRests_53 rfl ?_
    refine V.iload dX12_laysRests_55 rfl ?_
    refine V.icmp_gt 117 dX12_laysRests_57 (by decide) (fun c17 => ?_) (fun c17 => ?_)
    · rw [if_pos c17] at hf
      obtain rfl := Option.some.inj hf
      exact V.lo [(0, some (.ref z)), (1, some (.int g1)), (2, some (.int g2)), (3, some (.int g3)), (4, some (.int g4)), (5, some (.int g5)), (6, some (.int l6)), (7, some (.int l7))] (by simp only [Subs]; repeat' first | exact trivial | constructor | rfl) hk
    · rw [if_neg c17] at hf
      refine V.iconst (v := 0) dX12_laysRests_60 (by decide) ?_
      refine V.istore dX12_laysRests_61 (by decide) (by first | exact rfl | exact trivial) ?_
      obtain ⟨q24, hk25, hf⟩ := bnd_some hf
      refine V.lo [(0, some (.ref z)), (1, some (.int g1)), (2, some (.int g2)), (3, some (.int g3)), (4, some (.int g4)), (5, some (.int g5)), (6, some (.int l6)), (7, some (.int l7)), (8, some (.int 0))] (by simp only [Subs]; repeat' first | exact trivial | constructor | rfl) (l_r_laysRests_63 hs_z q24 F _ _ hk25 ?_)
      rcases q24 with r0 | ⟨m26, m27⟩
      · try dsimp only at hf ⊢
        obtain rfl := Option.some.inj hf
        exact hk
      · try dsimp only at hf ⊢
        refine V.iinc (v := (l7 + 1)) dX12_laysRests_111 rfl rfl (by first | exact rfl | exact trivial) ?_
        refine V.goto 53 dX12_laysRests_114 (by decide) ?_
        exact V.lo [(0, some (.ref z)), (1, some (.int g1)), (2, some (.int g2)), (3, some (.int g3)), (4, some (.int g4)), (5, some (.int g5)), (6, some (.int m26)), (7, some (.int (l7 + 1)))] (by simp only [Subs]; repeat' first | exact trivial | constructor | rfl) (ih _ _ hf hk)
theorem c_r_laysRests {l : Launch} {D : va_G} {E : Nat → ClassId} {B : Nat → Prop} {n F : Nat} {T : Nat → Option (Nat × Nat)} {I : Nat → Nat → Int32} {J : Nat → Nat → Int64} {P : Nat → Nat → Option Nat} {z : Nat} {v1 : Int32} {v2 : Int32} {v3 : Int32} {v4 : Int32} {v5 : Int32} {r : Int32 × (Nat → Nat → Int32)} (hs_z : isMd T P z) (hf : r_laysRests F I z v1 v2 v3 v4 v5 = some r) : Ct l D E B yX12_laysRests cX12_laysRests 9 (some .int) 7 0 0 [.ref z, .int v1, .int v2, .int v3, .int v4, .int v5] (n, T, I, J, P) (Ret (some (.int r.1)) (n, T, r.2, J, P)) := by
  unfold r_laysRests at hf
  refine Ct.ofV (by decide) (Nat.le_of_ble_eq_true rfl) ?_
  refine V.aload_n dX12_laysRests_0 rfl ?_
  obtain ⟨I3, hk2, hf⟩ := bnd_some hf
  try dsimp only at hf
  refine V.inv cv_X12_264 (c_r_keeps hs_z hk2) dX12_laysRests_1 (hs_z.1 0 (12, 0) rfl) (by decide) rfl rfl rfl (Nat.le_of_ble_eq_true rfl) (by decide) (by decide) (Nat.le_refl _) (Nat.le_refl _) (fun _ _ hq => ?_)
  obtain ⟨rfl, rfl⟩ := hq
  refine V.iconst (v := 0) dX12_laysRests_4 (by decide) ?_
  refine V.istore dX12_laysRests_5 (by decide) (by first | exact rfl | exact trivial) ?_
  obtain ⟨⟨m15, I16⟩, hk14, hf⟩ := bnd_some hf
  try dsimp only at hf
  refine V.lo [(0, some (.ref z)), (1, some (.int v1)), (2, some (.int v2)), (3, some (.int v3)), (4, some (.int v4)), (5, some (.int v5)), (6, some (.int 0))] (by simp only [Subs]; repeat' first | exact trivial | constructor | rfl) (l_r_laysRests_7 hs_z _ F _ _ hk14 ?_)
  try dsimp only
  refine V.iconst (v := 0) dX12_laysRests_47 (by decide) ?_
  refine V.istore dX12_laysRests_48 (by decide) (by first | exact rfl | exact trivial) ?_
  refine V.iconst (v := 0) dX12_laysRests_50 (by decide) ?_
  refine V.istore dX12_laysRests_51 (by decide) (by first | exact rfl | exact trivial) ?_
  obtain ⟨q28, hk29, hf⟩ := bnd_some hf
  refine V.lo [(0, some (.ref z)), (1, some (.int v1)), (2, some (.int v2)), (3, some (.int v3)), (4, some (.int v4)), (5, some (.int v5)), (6, some (.int 0)), (7, some (.int 0))] (by simp only [Subs]; repeat' first | exact trivial | constructor | rfl) (l_r_laysRests_53 hs_z q28 F _ _ hk29 ?_)
  rcases q28 with r0 | ⟨m30, m31⟩
  · try dsimp only at hf ⊢
    obtain rfl := Option.some.inj hf
    exact ⟨rfl, rfl⟩
  · try dsimp only at hf ⊢
    refine V.iload dX12_laysRests_117 rfl ?_
    refine V.if_ge 127 dX12_laysRests_119 (by decide) (fun c32 => ?_) (fun c32 => ?_)
    · rw [if_pos c32] at hf
      refine V.iconst (v := -1) dX12_laysRests_127 (by decide) ?_
      obtain rfl := Option.some.inj hf
      exact V.iret dX12_laysRests_128 rfl (Nat.le_refl _) (Nat.le_refl _) ⟨rfl, rfl⟩
    · rw [if_neg c32] at hf
      refine V.iload dX12_laysRests_122 rfl ?_
      refine V.goto 128 dX12_laysRests_124 (by decide) ?_
      obtain rfl := Option.some.inj hf
      exact V.iret dX12_laysRests_128 rfl (Nat.le_refl _) (Nat.le_refl _) ⟨rfl, rfl⟩
theorem dX12_noRests_0 : decode cX12_noRests 0 = .ok (.aload_n 0, 1) := by decide +kernel
theorem dX12_noRests_1 : decode cX12_noRests 1 = .ok (.iload_n 1, 1) := by decide +kernel
theorem dX12_noRests_2 : decode cX12_noRests 2 = .ok (.i2l, 1) := by decide +kernel
theorem dX12_noRests_3 : decode cX12_noRests 3 = .ok (.iload_n 2, 1) := by decide +kernel
theorem dX12_noRests_4 : decode cX12_noRests 4 = .ok (.i2l, 1) := by decide +kernel
theorem dX12_noRests_5 : decode cX12_noRests 5 = .ok (.invokevirtual 280, 3) := by decide +kernel
theorem dX12_noRests_8 : decode cX12_noRests 8 = .ok (.ifCond .eq 12, 3) := by decide +kernel
theorem dX12_noRests_11 : decode cX12_noRests 11 = .ok (.aload_n 0, 1) := by decide +kernel
theorem dX12_noRests_12 : decode cX12_noRests 12 = .ok (.iload_n 3, 1) := by decide +kernel
theorem dX12_noRests_13 : decode cX12_noRests 13 = .ok (.i2l, 1) := by decide +kernel
theorem dX12_noRests_14 : decode cX12_noRests 14 = .ok (.invokevirtual 248, 3) := by decide +kernel
theorem dX12_noRests_17 : decode cX12_noRests 17 = .ok (.ifCond .ne 6, 3) := by decide +kernel
theorem dX12_noRests_20 : decode cX12_noRests 20 = .ok (.bipush (-2), 2) := by decide +kernel
theorem dX12_noRests_22 : decode cX12_noRests 22 = .ok (.ireturn, 1) := by decide +kernel
theorem dX12_noRests_23 : decode cX12_noRests 23 = .ok (.iload 4, 2) := by decide +kernel
theorem dX12_noRests_25 : decode cX12_noRests 25 = .ok (.i2l, 1) := by decide +kernel
theorem dX12_noRests_26 : decode cX12_noRests 26 = .ok (.lconst 0, 1) := by decide +kernel
theorem dX12_noRests_27 : decode cX12_noRests 27 = .ok (.ldc2_w 425, 3) := by decide +kernel
theorem dX12_noRests_30 : decode cX12_noRests 30 = .ok (.invokestatic 145, 3) := by decide +kernel
theorem dX12_noRests_33 : decode cX12_noRests 33 = .ok (.ifCond .ne 8, 3) := by decide +kernel
theorem dX12_noRests_36 : decode cX12_noRests 36 = .ok (.bipush (-3), 2) := by decide +kernel
theorem dX12_noRests_38 : decode cX12_noRests 38 = .ok (.goto 25, 3) := by decide +kernel
theorem dX12_noRests_41 : decode cX12_noRests 41 = .ok (.aload_n 0, 1) := by decide +kernel
theorem dX12_noRests_42 : decode cX12_noRests 42 = .ok (.iload_n 1, 1) := by decide +kernel
theorem dX12_noRests_43 : decode cX12_noRests 43 = .ok (.invokevirtual 218, 3) := by decide +kernel
theorem dX12_noRests_46 : decode cX12_noRests 46 = .ok (.ifCond .eq 15, 3) := by decide +kernel
theorem dX12_noRests_49 : decode cX12_noRests 49 = .ok (.aload_n 0, 1) := by decide +kernel
theorem dX12_noRests_50 : decode cX12_noRests 50 = .ok (.iload_n 2, 1) := by decide +kernel
theorem dX12_noRests_51 : decode cX12_noRests 51 = .ok (.invokevirtual 218, 3) := by decide +kernel
theorem dX12_noRests_54 : decode cX12_noRests 54 = .ok (.ifCond .eq 7, 3) := by decide +kernel
theorem dX12_noRests_57 : decode cX12_noRests 57 = .ok (.iconst 0, 1) := by decide +kernel
theorem dX12_noRests_58 : decode cX12_noRests 58 = .ok (.goto 5, 3) := by decide +kernel
theorem dX12_noRests_61 : decode cX12_noRests 61 = .ok (.bipush (-5), 2) := by decide +kernel
theorem dX12_noRests_63 : decode cX12_noRests 63 = .ok (.ireturn, 1) := by decide +kernel
def r_noRests (I : Nat → Nat → Int32) (z : Nat) (v1 : Int32) (v2 : Int32) (v3 : Int32) (v4 : Int32) : Option (Int32) := (r_areTwo I z (Int32.toInt64 v1) (Int32.toInt64 v2)).bind (fun q1 => let u3 := q1; if u3 = 0 then (some (-2)) else ((r_isTune I z (Int32.toInt64 v3)).bind (fun q5 => let u7 := q5; if u7 = 0 then (some (-2)) else (if (r_within (Int32.toInt64 v4) 0 20) = 0 then (some (-3)) else ((r_isUp I z v1).bind (fun q10 => let u12 := q10; if u12 = 0 then (some (-5)) else ((r_isUp I z v2).bind (fun q14 => let u16 := q14; if u16 = 0 then (some (-5)) else (some 0)))))))))
theorem c_r_noRests {l : Launch} {D : va_G} {E : Nat → ClassId} {B : Nat → Prop} {n : Nat} {T : Nat → Option (Nat × Nat)} {I : Nat → Nat → Int32} {J : Nat → Nat → Int64} {P : Nat → Nat → Option Nat} {z : Nat} {v1 : Int32} {v2 : Int32} {v3 : Int32} {v4 : Int32} {r : Int32} (hs_z : isMd T P z) (hf : r_noRests I z v1 v2 v3 v4 = some r) : Ct l D E B yX12_noRests cX12_noRests 5 (some .int) 3 0 0 [.ref z, .int v1, .int v2, .int v3, .int v4] (n, T, I, J, P) (Ret (some (.int r)) (n, T, I, J, P)) := by
  unfold r_noRests at hf
  refine Ct.ofV (by decide) (Nat.le_of_ble_eq_true rfl) ?_
  refine V.aload_n dX12_noRests_0 rfl ?_
  refine V.iload_n dX12_noRests_1 rfl ?_
  refine V.i2l dX12_noRests_2 ?_
  refine V.iload_n dX12_noRests_3 rfl ?_
  refine V.i2l dX12_noRests_4 ?_
  obtain ⟨u3, hk2, hf⟩ := bnd_some hf
  try dsimp only at hf
  refine V.inv cv_X12_280 (c_r_areTwo hs_z hk2) dX12_noRests_5 (hs_z.1 0 (12, 0) rfl) (by decide) rfl rfl rfl (Nat.le_of_ble_eq_true rfl) (by decide) (by decide) (Nat.le_refl _) (Nat.le_refl _) (fun _ _ hq => ?_)
  obtain ⟨rfl, rfl⟩ := hq
  refine V.if_eq 20 dX12_noRests_8 (by decide) (fun c4 => ?_) (fun c4 => ?_)
  · rw [if_pos c4] at hf
    refine V.bipush (v := -2) dX12_noRests_20 (by decide) ?_
    obtain rfl := Option.some.inj hf
    exact V.iret dX12_noRests_22 rfl (Nat.le_refl _) (Nat.le_refl _) ⟨rfl, rfl⟩
  · rw [if_neg c4] at hf
    refine V.aload_n dX12_noRests_11 rfl ?_
    refine V.iload_n dX12_noRests_12 rfl ?_
    refine V.i2l dX12_noRests_13 ?_
    obtain ⟨u7, hk6, hf⟩ := bnd_some hf
    try dsimp only at hf
    refine V.inv cv_X12_248 (c_r_isTune hs_z hk6) dX12_noRests_14 (hs_z.1 0 (12, 0) rfl) (by decide) rfl rfl rfl (Nat.le_of_ble_eq_true rfl) (by decide) (by decide) (Nat.le_refl _) (Nat.le_refl _) (fun _ _ hq => ?_)
    obtain ⟨rfl, rfl⟩ := hq
    refine V.if_ne 23 dX12_noRests_17 (by decide) (fun c8 => ?_) (fun c8 => ?_)
    · rw [if_neg c8] at hf
      refine V.iload dX12_noRests_23 rfl ?_
      refine V.i2l dX12_noRests_25 ?_
      refine V.lconst (v := 0) dX12_noRests_26 (by decide) ?_
      refine V.ldc2 dX12_noRests_27 kc_X12_425 ?_
      refine V.ins cs_X12_145 (c_r_within) dX12_noRests_30 rfl rfl (Nat.le_of_ble_eq_true rfl) (by decide) (by decide) (Nat.le_refl _) (Nat.le_refl _) (fun _ _ hq => ?_)
      obtain ⟨rfl, rfl⟩ := hq
      refine V.if_ne 41 dX12_noRests_33 (by decide) (fun c9 => ?_) (fun c9 => ?_)
      · rw [if_neg c9] at hf
        refine V.aload_n dX12_noRests_41 rfl ?_
        refine V.iload_n dX12_noRests_42 rfl ?_
        obtain ⟨u12, hk11, hf⟩ := bnd_some hf
        try dsimp only at hf
        refine V.inv cv_X12_218 (c_r_isUp hs_z hk11) dX12_noRests_43 (hs_z.1 0 (12, 0) rfl) (by decide) rfl rfl rfl (Nat.le_of_ble_eq_true rfl) (by decide) (by decide) (Nat.le_refl _) (Nat.le_refl _) (fun _ _ hq => ?_)
        obtain ⟨rfl, rfl⟩ := hq
        refine V.if_eq 61 dX12_noRests_46 (by decide) (fun c13 => ?_) (fun c13 => ?_)
        · rw [if_pos c13] at hf
          refine V.bipush (v := -5) dX12_noRests_61 (by decide) ?_
          obtain rfl := Option.some.inj hf
          exact V.iret dX12_noRests_63 rfl (Nat.le_refl _) (Nat.le_refl _) ⟨rfl, rfl⟩
        · rw [if_neg c13] at hf
          refine V.aload_n dX12_noRests_49 rfl ?_
          refine V.iload_n dX12_noRests_50 rfl ?_
          obtain ⟨u16, hk15, hf⟩ := bnd_some hf
          try dsimp only at hf
          refine V.inv cv_X12_218 (c_r_isUp hs_z hk15) dX12_noRests_51 (hs_z.1 0 (12, 0) rfl) (by decide) rfl rfl rfl (Nat.le_of_ble_eq_true rfl) (by decide) (by decide) (Nat.le_refl _) (Nat.le_refl _) (fun _ _ hq => ?_)
          obtain ⟨rfl, rfl⟩ := hq
          refine V.if_eq 61 dX12_noRests_54 (by decide) (fun c17 => ?_) (fun c17 => ?_)
          · rw [if_pos c17] at hf
            refine V.bipush (v := -5) dX12_noRests_61 (by decide) ?_
            obtain rfl := Option.some.inj hf
            exact V.iret dX12_noRests_63 rfl (Nat.le_refl _) (Nat.le_refl _) ⟨rfl, rfl⟩
          · rw [if_neg c17] at hf
            refine V.iconst (v := 0) dX12_noRests_57 (by decide) ?_
            refine V.goto 63 dX12_noRests_58 (by decide) ?_
            obtain rfl := Option.some.inj hf
            exact V.iret dX12_noRests_63 rfl (Nat.le_refl _) (Nat.le_refl _) ⟨rfl, rfl⟩
      · rw [if_pos c9] at hf
        refine V.bipush (v := -3) dX12_noRests_36 (by decide) ?_
        refine V.goto 63 dX12_noRests_38 (by decide) ?_
        obtain rfl := Option.some.inj hf
        exact V.iret dX12_noRests_63 rfl (Nat.le_refl _) (Nat.le_refl _) ⟨rfl, rfl⟩
    · rw [if_pos c8] at hf
      refine V.bipush (v := -2) dX12_noRests_20 (by decide) ?_
      obtain rfl := Option.some.inj hf
      exact V.iret dX12_noRests_22 rfl (Nat.le_refl _) (Nat.le_refl _) ⟨rfl, rfl⟩
theorem dX12_rests_0 : decode cX12_rests 0 = .ok (.aload_n 0, 1) := by decide +kernel
theorem dX12_rests_1 : decode cX12_rests 1 = .ok (.iconst 0, 1) := by decide +kernel
theorem dX12_rests_2 : decode cX12_rests 2 = .ok (.putfield 1, 3) := by decide +kernel
theorem dX12_rests_5 : decode cX12_rests 5 = .ok (.aload_n 0, 1) := by decide +kernel
theorem dX12_rests_6 : decode cX12_rests 6 = .ok (.iload_n 1, 1) := by decide +kernel
theorem dX12_rests_7 : decode cX12_rests 7 = .ok (.iload_n 2, 1) := by decide +kernel
theorem dX12_rests_8 : decode cX12_rests 8 = .ok (.iload_n 3, 1) := by decide +kernel
theorem dX12_rests_9 : decode cX12_rests 9 = .ok (.iload 4, 2) := by decide +kernel
theorem dX12_rests_11 : decode cX12_rests 11 = .ok (.invokevirtual 427, 3) := by decide +kernel
theorem dX12_rests_14 : decode cX12_rests 14 = .ok (.istore 5, 2) := by decide +kernel
theorem dX12_rests_16 : decode cX12_rests 16 = .ok (.iload 5, 2) := by decide +kernel
theorem dX12_rests_18 : decode cX12_rests 18 = .ok (.ifCond .eq 8, 3) := by decide +kernel
theorem dX12_rests_21 : decode cX12_rests 21 = .ok (.iload 5, 2) := by decide +kernel
theorem dX12_rests_23 : decode cX12_rests 23 = .ok (.goto 13, 3) := by decide +kernel
theorem dX12_rests_26 : decode cX12_rests 26 = .ok (.aload_n 0, 1) := by decide +kernel
theorem dX12_rests_27 : decode cX12_rests 27 = .ok (.iload_n 1, 1) := by decide +kernel
theorem dX12_rests_28 : decode cX12_rests 28 = .ok (.iload_n 2, 1) := by decide +kernel
theorem dX12_rests_29 : decode cX12_rests 29 = .ok (.iload_n 3, 1) := by decide +kernel
theorem dX12_rests_30 : decode cX12_rests 30 = .ok (.iload 4, 2) := by decide +kernel
theorem dX12_rests_32 : decode cX12_rests 32 = .ok (.iconst (-1), 1) := by decide +kernel
theorem dX12_rests_33 : decode cX12_rests 33 = .ok (.invokevirtual 431, 3) := by decide +kernel
theorem dX12_rests_36 : decode cX12_rests 36 = .ok (.ireturn, 1) := by decide +kernel
def r_rests (F : Nat) (I : Nat → Nat → Int32) (z : Nat) (v1 : Int32) (v2 : Int32) (v3 : Int32) (v4 : Int32) : Option (Int32 × (Nat → Nat → Int32)) := let I1 := uI I z 0 0; (r_noRests I1 z v1 v2 v3 v4).bind (fun q3 => let u5 := q3; if u5 = 0 then ((r_laysRests F I1 z v1 v2 v3 v4 (-1)).bind (fun q7 => let u9 := q7.1; let I10 := q7.2; some (u9, I10))) else (some (u5, I1)))
theorem c_r_rests {l : Launch} {D : va_G} {E : Nat → ClassId} {B : Nat → Prop} {n F : Nat} {T : Nat → Option (Nat × Nat)} {I : Nat → Nat → Int32} {J : Nat → Nat → Int64} {P : Nat → Nat → Option Nat} {z : Nat} {v1 : Int32} {v2 : Int32} {v3 : Int32} {v4 : Int32} {r : Int32 × (Nat → Nat → Int32)} (hs_z : isMd T P z) (hf : r_rests F I z v1 v2 v3 v4 = some r) : Ct l D E B yX12_rests cX12_rests 6 (some .int) 8 0 0 [.ref z, .int v1, .int v2, .int v3, .int v4] (n, T, I, J, P) (Ret (some (.int r.1)) (n, T, r.2, J, P)) := by
  unfold r_rests at hf
  refine Ct.ofV (by decide) (Nat.le_of_ble_eq_true rfl) ?_
  refine V.aload_n dX12_rests_0 rfl ?_
  refine V.iconst (v := 0) dX12_rests_1 (by decide) ?_
  refine V.putiE fl_X12_1 dX12_rests_2 (hs_z.1 0 (12, 0) rfl) (by decide) (fun h => by cases h) rfl rfl rfl (Nat.le_of_ble_eq_true rfl) (fun I1 e2 => ?_)
  rw [← e2] at hf
  try dsimp only at hf
  clear e2
  refine V.aload_n dX12_rests_5 rfl ?_
  refine V.iload_n dX12_rests_6 rfl ?_
  refine V.iload_n dX12_rests_7 rfl ?_
  refine V.iload_n dX12_rests_8 rfl ?_
  refine V.iload dX12_rests_9 rfl ?_
  obtain ⟨u5, hk4, hf⟩ := bnd_some hf
  try dsimp only at hf
  refine V.inv cv_X12_427 (c_r_noRests hs_z hk4) dX12_rests_11 (hs_z.1 0 (12, 0) rfl) (by decide) rfl rfl rfl (Nat.le_of_ble_eq_true rfl) (by decide) (by decide) (Nat.le_refl _) (Nat.le_refl _) (fun _ _ hq => ?_)
  obtain ⟨rfl, rfl⟩ := hq
  refine V.istore dX12_rests_14 (by decide) (by first | exact rfl | exact trivial) ?_
  refine V.iload dX12_rests_16 rfl ?_
  refine V.if_eq 26 dX12_rests_18 (by decide) (fun c6 => ?_) (fun c6 => ?_)
  · rw [if_pos c6] at hf
    refine V.aload_n dX12_rests_26 rfl ?_
    refine V.iload_n dX12_rests_27 rfl ?_
    refine V.iload_n dX12_rests_28 rfl ?_
    refine V.iload_n dX12_rests_29 rfl ?_
    refine V.iload dX12_rests_30 rfl ?_
    refine V.iconst (v := -1) dX12_rests_32 (by decide) ?_
    obtain ⟨⟨u9, I10⟩, hk8, hf⟩ := bnd_some hf
    try dsimp only at hf
    refine V.inv cv_X12_431 (c_r_laysRests hs_z hk8) dX12_rests_33 (hs_z.1 0 (12, 0) rfl) (by decide) rfl rfl rfl (Nat.le_of_ble_eq_true rfl) (by decide) (by decide) (Nat.le_refl _) (Nat.le_refl _) (fun _ _ hq => ?_)
    obtain ⟨rfl, rfl⟩ := hq
    try dsimp only
    obtain rfl := Option.some.inj hf
    exact V.iret dX12_rests_36 rfl (Nat.le_refl _) (Nat.le_refl _) ⟨rfl, rfl⟩
  · rw [if_neg c6] at hf
    refine V.iload dX12_rests_21 rfl ?_
    refine V.goto 36 dX12_rests_23 (by decide) ?_
    obtain rfl := Option.some.inj hf
    exact V.iret dX12_rests_36 rfl (Nat.le_refl _) (Nat.le_refl _) ⟨rfl, rfl⟩
theorem dX12_rest_0 : decode cX12_rest 0 = .ok (.aload_n 0, 1) := by decide +kernel
theorem dX12_rest_1 : decode cX12_rest 1 = .ok (.iconst 0, 1) := by decide +kernel
theorem dX12_rest_2 : decode cX12_rest 2 = .ok (.putfield 1, 3) := by decide +kernel
theorem dX12_rest_5 : decode cX12_rest 5 = .ok (.aload_n 0, 1) := by decide +kernel
theorem dX12_rest_6 : decode cX12_rest 6 = .ok (.iload_n 1, 1) := by decide +kernel
theorem dX12_rest_7 : decode cX12_rest 7 = .ok (.iload_n 2, 1) := by decide +kernel
theorem dX12_rest_8 : decode cX12_rest 8 = .ok (.iload_n 3, 1) := by decide +kernel
theorem dX12_rest_9 : decode cX12_rest 9 = .ok (.iload 4, 2) := by decide +kernel
theorem dX12_rest_11 : decode cX12_rest 11 = .ok (.invokevirtual 427, 3) := by decide +kernel
theorem dX12_rest_14 : decode cX12_rest 14 = .ok (.istore 6, 2) := by decide +kernel
theorem dX12_rest_16 : decode cX12_rest 16 = .ok (.iload 6, 2) := by decide +kernel
theorem dX12_rest_18 : decode cX12_rest 18 = .ok (.ifCond .eq 6, 3) := by decide +kernel
theorem dX12_rest_21 : decode cX12_rest 21 = .ok (.iload 6, 2) := by decide +kernel
theorem dX12_rest_23 : decode cX12_rest 23 = .ok (.ireturn, 1) := by decide +kernel
theorem dX12_rest_24 : decode cX12_rest 24 = .ok (.iload 5, 2) := by decide +kernel
theorem dX12_rest_26 : decode cX12_rest 26 = .ok (.ifCond .ge 8, 3) := by decide +kernel
theorem dX12_rest_29 : decode cX12_rest 29 = .ok (.bipush (-3), 2) := by decide +kernel
theorem dX12_rest_31 : decode cX12_rest 31 = .ok (.goto 14, 3) := by decide +kernel
theorem dX12_rest_34 : decode cX12_rest 34 = .ok (.aload_n 0, 1) := by decide +kernel
theorem dX12_rest_35 : decode cX12_rest 35 = .ok (.iload_n 1, 1) := by decide +kernel
theorem dX12_rest_36 : decode cX12_rest 36 = .ok (.iload_n 2, 1) := by decide +kernel
theorem dX12_rest_37 : decode cX12_rest 37 = .ok (.iload_n 3, 1) := by decide +kernel
theorem dX12_rest_38 : decode cX12_rest 38 = .ok (.iload 4, 2) := by decide +kernel
theorem dX12_rest_40 : decode cX12_rest 40 = .ok (.iload 5, 2) := by decide +kernel
theorem dX12_rest_42 : decode cX12_rest 42 = .ok (.invokevirtual 431, 3) := by decide +kernel
theorem dX12_rest_45 : decode cX12_rest 45 = .ok (.ireturn, 1) := by decide +kernel
def r_rest (F : Nat) (I : Nat → Nat → Int32) (z : Nat) (v1 : Int32) (v2 : Int32) (v3 : Int32) (v4 : Int32) (v5 : Int32) : Option (Int32 × (Nat → Nat → Int32)) := let I1 := uI I z 0 0; (r_noRests I1 z v1 v2 v3 v4).bind (fun q3 => let u5 := q3; if u5 = 0 then (if 0 ≤ v5 then ((r_laysRests F I1 z v1 v2 v3 v4 v5).bind (fun q8 => let u10 := q8.1; let I11 := q8.2; some (u10, I11))) else (some ((-3), I1))) else (some (u5, I1)))
theorem c_r_rest {l : Launch} {D : va_G} {E : Nat → ClassId} {B : Nat → Prop} {n F : Nat} {T : Nat → Option (Nat × Nat)} {I : Nat → Nat → Int32} {J : Nat → Nat → Int64} {P : Nat → Nat → Option Nat} {z : Nat} {v1 : Int32} {v2 : Int32} {v3 : Int32} {v4 : Int32} {v5 : Int32} {r : Int32 × (Nat → Nat → Int32)} (hs_z : isMd T P z) (hf : r_rest F I z v1 v2 v3 v4 v5 = some r) : Ct l D E B yX12_rest cX12_rest 7 (some .int) 8 0 0 [.ref z, .int v1, .int v2, .int v3, .int v4, .int v5] (n, T, I, J, P) (Ret (some (.int r.1)) (n, T, r.2, J, P)) := by
  unfold r_rest at hf
  refine Ct.ofV (by decide) (Nat.le_of_ble_eq_true rfl) ?_
  refine V.aload_n dX12_rest_0 rfl ?_
  refine V.iconst (v := 0) dX12_rest_1 (by decide) ?_
  refine V.putiE fl_X12_1 dX12_rest_2 (hs_z.1 0 (12, 0) rfl) (by decide) (fun h => by cases h) rfl rfl rfl (Nat.le_of_ble_eq_true rfl) (fun I1 e2 => ?_)
  rw [← e2] at hf
  try dsimp only at hf
  clear e2
  refine V.aload_n dX12_rest_5 rfl ?_
  refine V.iload_n dX12_rest_6 rfl ?_
  refine V.iload_n dX12_rest_7 rfl ?_
  refine V.iload_n dX12_rest_8 rfl ?_
  refine V.iload dX12_rest_9 rfl ?_
  obtain ⟨u5, hk4, hf⟩ := bnd_some hf
  try dsimp only at hf
  refine V.inv cv_X12_427 (c_r_noRests hs_z hk4) dX12_rest_11 (hs_z.1 0 (12, 0) rfl) (by decide) rfl rfl rfl (Nat.le_of_ble_eq_true rfl) (by decide) (by decide) (Nat.le_refl _) (Nat.le_refl _) (fun _ _ hq => ?_)
  obtain ⟨rfl, rfl⟩ := hq
  refine V.istore dX12_rest_14 (by decide) (by first | exact rfl | exact trivial) ?_
  refine V.iload dX12_rest_16 rfl ?_
  refine V.if_eq 24 dX12_rest_18 (by decide) (fun c6 => ?_) (fun c6 => ?_)
  · rw [if_pos c6] at hf
    refine V.iload dX12_rest_24 rfl ?_
    refine V.if_ge 34 dX12_rest_26 (by decide) (fun c7 => ?_) (fun c7 => ?_)
    · rw [if_pos c7] at hf
      refine V.aload_n dX12_rest_34 rfl ?_
      refine V.iload_n dX12_rest_35 rfl ?_
      refine V.iload_n dX12_rest_36 rfl ?_
      refine V.iload_n dX12_rest_37 rfl ?_
      refine V.iload dX12_rest_38 rfl ?_
      refine V.iload dX12_rest_40 rfl ?_
      obtain ⟨⟨u10, I11⟩, hk9, hf⟩ := bnd_some hf
      try dsimp only at hf
      refine V.inv cv_X12_431 (c_r_laysRests hs_z hk9) dX12_rest_42 (hs_z.1 0 (12, 0) rfl) (by decide) rfl rfl rfl (Nat.le_of_ble_eq_true rfl) (by decide) (by decide) (Nat.le_refl _) (Nat.le_refl _) (fun _ _ hq => ?_)
      obtain ⟨rfl, rfl⟩ := hq
      try dsimp only
      obtain rfl := Option.some.inj hf
      exact V.iret dX12_rest_45 rfl (Nat.le_refl _) (Nat.le_refl _) ⟨rfl, rfl⟩
    · rw [if_neg c7] at hf
      refine V.bipush (v := -3) dX12_rest_29 (by decide) ?_
      refine V.goto 45 dX12_rest_31 (by decide) ?_
      obtain rfl := Option.some.inj hf
      exact V.iret dX12_rest_45 rfl (Nat.le_refl _) (Nat.le_refl _) ⟨rfl, rfl⟩
  · rw [if_neg c6] at hf
    refine V.iload dX12_rest_21 rfl ?_
    obtain rfl := Option.some.inj hf
    exact V.iret dX12_rest_23 rfl (Nat.le_refl _) (Nat.le_refl _) ⟨rfl, rfl⟩
theorem dX12_oddsAll_0 : decode cX12_oddsAll 0 = .ok (.iconst 0, 1) := by decide +kernel
theorem dX12_oddsAll_1 : decode cX12_oddsAll 1 = .ok (.istore_n 1, 1) := by decide +kernel
theorem dX12_oddsAll_2 : decode cX12_oddsAll 2 = .ok (.iconst 0, 1) := by decide +kernel
theorem dX12_oddsAll_3 : decode cX12_oddsAll 3 = .ok (.istore_n 2, 1) := by decide +kernel
theorem dX12_oddsAll_4 : decode cX12_oddsAll 4 = .ok (.iload_n 2, 1) := by decide +kernel
theorem dX12_oddsAll_5 : decode cX12_oddsAll 5 = .ok (.aload_n 0, 1) := by decide +kernel
theorem dX12_oddsAll_6 : decode cX12_oddsAll 6 = .ok (.getfield 13, 3) := by decide +kernel
theorem dX12_oddsAll_9 : decode cX12_oddsAll 9 = .ok (.iconst 2, 1) := by decide +kernel
theorem dX12_oddsAll_10 : decode cX12_oddsAll 10 = .ok (.iaload, 1) := by decide +kernel
theorem dX12_oddsAll_11 : decode cX12_oddsAll 11 = .ok (.if_icmp .ge 21, 3) := by decide +kernel
theorem dX12_oddsAll_14 : decode cX12_oddsAll 14 = .ok (.iload_n 1, 1) := by decide +kernel
theorem dX12_oddsAll_15 : decode cX12_oddsAll 15 = .ok (.aload_n 0, 1) := by decide +kernel
theorem dX12_oddsAll_16 : decode cX12_oddsAll 16 = .ok (.getfield 13, 3) := by decide +kernel
theorem dX12_oddsAll_19 : decode cX12_oddsAll 19 = .ok (.bipush 22, 2) := by decide +kernel
theorem dX12_oddsAll_21 : decode cX12_oddsAll 21 = .ok (.iload_n 2, 1) := by decide +kernel
theorem dX12_oddsAll_22 : decode cX12_oddsAll 22 = .ok (.iadd, 1) := by decide +kernel
theorem dX12_oddsAll_23 : decode cX12_oddsAll 23 = .ok (.iaload, 1) := by decide +kernel
theorem dX12_oddsAll_24 : decode cX12_oddsAll 24 = .ok (.iadd, 1) := by decide +kernel
theorem dX12_oddsAll_25 : decode cX12_oddsAll 25 = .ok (.istore_n 1, 1) := by decide +kernel
theorem dX12_oddsAll_26 : decode cX12_oddsAll 26 = .ok (.iinc 2 1, 3) := by decide +kernel
theorem dX12_oddsAll_29 : decode cX12_oddsAll 29 = .ok (.goto (-25), 3) := by decide +kernel
theorem dX12_oddsAll_32 : decode cX12_oddsAll 32 = .ok (.iload_n 1, 1) := by decide +kernel
theorem dX12_oddsAll_33 : decode cX12_oddsAll 33 = .ok (.ireturn, 1) := by decide +kernel
def r_oddsAll_4 (F : Nat) (I : Nat → Nat → Int32) (z : Nat) : Nat → Int32 → Int32 → Option (Int32 × Int32)
  | 0, _, _ => none
  | k + 1, l1, l2 => if (I (z + 1) (Int32.toNatClampNeg 2)) ≤ l2 then (some (l1, l2)) else (chk (22 + l2) 3891 (let x3 := (l1 + (I (z + 1) (Int32.toNatClampNeg (22 + l2)))); r_oddsAll_4 F I z k x3 (l2 + 1)))
def r_oddsAll (F : Nat) (I : Nat → Nat → Int32) (z : Nat) : Option (Int32) := (r_oddsAll_4 F I z F 0 0).bind (fun q5 => let m7 := q5.1; let m8 := q5.2; some m7)
theorem l_r_oddsAll_4 {l : Launch} {D : va_G} {E : Nat → ClassId} {B : Nat → Prop} {n F : Nat} {Q : Option Value → HT → Prop} {T : Nat → Option (Nat × Nat)} {I : Nat → Nat → Int32} {J : Nat → Nat → Int64} {P : Nat → Nat → Option Nat} {z : Nat}  (hs_z : isMd T P z)  (r : Int32 × Int32) : ∀ (k : Nat) (l1 : Int32) (l2 : Int32), r_oddsAll_4 F I z k l1 l2 = some r → V l D E B yX12_oddsAll cX12_oddsAll 3 (some .int) 0 0 0 Q 0 0 (n, T, I, J, P) 32 [(0, some (.ref z)), (1, some (.int (r.1))), (2, some (.int (r.2)))] [] → V l D E B yX12_oddsAll cX12_oddsAll 3 (some .int) 0 0 0 Q 0 0 (n, T, I, J, P) 4 [(0, some (.ref z)), (1, some (.int l1)), (2, some (.int l2))] [] := by
  intro k
  induction k with
  | zero =>
    intro l1 l2 hf hk
    cases hf
  | succ k ih =>
    intro l1 l2 hf hk
    unfold r_oddsAll_4 at hf
    refine V.iload_n dX12_oddsAll_4 rfl ?_
    refine V.aload_n dX12_oddsAll_5 rfl ?_
    refine V.getr fl_X12_13 dX12_oddsAll_6 (hs_z.1 0 (12, 0) rfl) (hs_z.2 0 1 1 rfl) (by decide) rfl ?_
    refine V.iconst (v := 2) dX12_oddsAll_9 (by decide) ?_
    refine V.iald dX12_oddsAll_10 (hs_z.1 1 (20, 3891) rfl) (vp_lit (by decide)) ?_
    refine V.icmp_ge 32 dX12_oddsAll_11 (by decide) (fun c1 => ?_) (fun c1 => ?_)
    · rw [if_pos c1] at hf
      obtain rfl := Option.some.inj hf
      exact V.lo [(0, some (.ref z)), (1, some (.int l1)), (2, some (.int l2))] (by simp only [Subs]; repeat' first | exact trivial | constructor | rfl) hk
    · rw [if_neg c1] at hf
      refine V.iload_n dX12_oddsAll_14 rfl ?_
      refine V.aload_n dX12_oddsAll_15 rfl ?_
      refine V.getr fl_X12_13 dX12_oddsAll_16 (hs_z.1 0 (12, 0) rfl) (hs_z.2 0 1 1 rfl) (by decide) rfl ?_
      refine V.bipush (v := 22) dX12_oddsAll_19 (by decide) ?_
      refine V.iload_n dX12_oddsAll_21 rfl ?_
      refine V.iadd dX12_oddsAll_22 ?_
      obtain ⟨hb2, hf⟩ := chk_some hf
      refine V.iald dX12_oddsAll_23 (hs_z.1 1 (20, 3891) rfl) hb2 ?_
      refine V.iadd dX12_oddsAll_24 ?_
      refine V.istore_n dX12_oddsAll_25 rfl (by decide) (by first | exact rfl | exact trivial) ?_
      obtain ⟨x3, e4⟩ : ∃ zz_, zz_ = (l1 + (I (z + 1) (Int32.toNatClampNeg (22 + l2)))) := ⟨_, rfl⟩
      rw [← e4] at hf ⊢
      try dsimp only at hf
      refine V.iinc (v := (l2 + 1)) dX12_oddsAll_26 rfl rfl (by first | exact rfl | exact trivial) ?_
      refine V.goto 4 dX12_oddsAll_29 (by decide) ?_
      exact V.lo [(0, some (.ref z)), (1, some (.int x3)), (2, some (.int (l2 + 1)))] (by simp only [Subs]; repeat' first | exact trivial | constructor | rfl) (ih _ _ hf hk)
theorem c_r_oddsAll {l : Launch} {D : va_G} {E : Nat → ClassId} {B : Nat → Prop} {n F : Nat} {T : Nat → Option (Nat × Nat)} {I : Nat → Nat → Int32} {J : Nat → Nat → Int64} {P : Nat → Nat → Option Nat} {z : Nat}  {r : Int32} (hs_z : isMd T P z) (hf : r_oddsAll F I z = some r) : Ct l D E B yX12_oddsAll cX12_oddsAll 3 (some .int) 0 0 0 [.ref z] (n, T, I, J, P) (Ret (some (.int r)) (n, T, I, J, P)) := by
  unfold r_oddsAll at hf
  refine Ct.ofV (by decide) (Nat.le_of_ble_eq_true rfl) ?_
  refine V.iconst (v := 0) dX12_oddsAll_0 (by decide) ?_
  refine V.istore_n dX12_oddsAll_1 rfl (by decide) (by first | exact rfl | exact trivial) ?_
  refine V.iconst (v := 0) dX12_oddsAll_2 (by decide) ?_
  refine V.istore_n dX12_oddsAll_3 rfl (by decide) (by first | exact rfl | exact trivial) ?_
  obtain ⟨⟨m7, m8⟩, hk6, hf⟩ := bnd_some hf
  try dsimp only at hf
  refine V.lo [(0, some (.ref z)), (1, some (.int 0)), (2, some (.int 0))] (by simp only [Subs]; repeat' first | exact trivial | constructor | rfl) (l_r_oddsAll_4 hs_z _ F _ _ hk6 ?_)
  try dsimp only
  refine V.iload_n dX12_oddsAll_32 rfl ?_
  obtain rfl := Option.some.inj hf
  exact V.iret dX12_oddsAll_33 rfl (Nat.le_refl _) (Nat.le_refl _) ⟨rfl, rfl⟩
theorem dX12_minutesOf_0 : decode cX12_minutesOf 0 = .ok (.aload_n 0, 1) := by decide +kernel
theorem dX12_minutesOf_1 : decode cX12_minutesOf 1 = .ok (.invokevirtual 439, 3) := by decide +kernel
theorem dX12_minutesOf_4 : decode cX12_minutesOf 4 = .ok (.ifCond .ne 7, 3) := by decide +kernel
theorem dX12_minutesOf_7 : decode cX12_minutesOf 7 = .ok (.iconst 0, 1) := by decide +kernel
theorem dX12_minutesOf_8 : decode cX12_minutesOf 8 = .ok (.goto 4, 3) := by decide +kernel
theorem dX12_minutesOf_11 : decode cX12_minutesOf 11 = .ok (.iload_n 1, 1) := by decide +kernel
theorem dX12_minutesOf_12 : decode cX12_minutesOf 12 = .ok (.ireturn, 1) := by decide +kernel
def r_minutesOf (F : Nat) (I : Nat → Nat → Int32) (z : Nat) (v1 : Int32) : Option (Int32) := (r_oddsAll F I z).bind (fun q1 => let u3 := q1; if u3 = 0 then (some 0) else (some v1))
theorem c_r_minutesOf {l : Launch} {D : va_G} {E : Nat → ClassId} {B : Nat → Prop} {n F : Nat} {T : Nat → Option (Nat × Nat)} {I : Nat → Nat → Int32} {J : Nat → Nat → Int64} {P : Nat → Nat → Option Nat} {z : Nat} {v1 : Int32} {r : Int32} (hs_z : isMd T P z) (hf : r_minutesOf F I z v1 = some r) : Ct l D E B yX12_minutesOf cX12_minutesOf 2 (some .int) 1 0 0 [.ref z, .int v1] (n, T, I, J, P) (Ret (some (.int r)) (n, T, I, J, P)) := by
  unfold r_minutesOf at hf
  refine Ct.ofV (by decide) (Nat.le_of_ble_eq_true rfl) ?_
  refine V.aload_n dX12_minutesOf_0 rfl ?_
  obtain ⟨u3, hk2, hf⟩ := bnd_some hf
  try dsimp only at hf
  refine V.inv cv_X12_439 (c_r_oddsAll hs_z hk2) dX12_minutesOf_1 (hs_z.1 0 (12, 0) rfl) (by decide) rfl rfl rfl (Nat.le_of_ble_eq_true rfl) (by decide) (by decide) (Nat.le_refl _) (Nat.le_refl _) (fun _ _ hq => ?_)
  obtain ⟨rfl, rfl⟩ := hq
  refine V.if_ne 11 dX12_minutesOf_4 (by decide) (fun c4 => ?_) (fun c4 => ?_)
  · rw [if_neg c4] at hf
    refine V.iload_n dX12_minutesOf_11 rfl ?_
    obtain rfl := Option.some.inj hf
    exact V.iret dX12_minutesOf_12 rfl (Nat.le_refl _) (Nat.le_refl _) ⟨rfl, rfl⟩
  · rw [if_pos c4] at hf
    refine V.iconst (v := 0) dX12_minutesOf_7 (by decide) ?_
    refine V.goto 12 dX12_minutesOf_8 (by decide) ?_
    obtain rfl := Option.some.inj hf
    exact V.iret dX12_minutesOf_12 rfl (Nat.le_refl _) (Nat.le_refl _) ⟨rfl, rfl⟩
theorem dX12_numbers_0 : decode cX12_numbers 0 = .ok (.aload_n 0, 1) := by decide +kernel
theorem dX12_numbers_1 : decode cX12_numbers 1 = .ok (.iconst 0, 1) := by decide +kernel
theorem dX12_numbers_2 : decode cX12_numbers 2 = .ok (.putfield 1, 3) := by decide +kernel
theorem dX12_numbers_5 : decode cX12_numbers 5 = .ok (.iload_n 1, 1) := by decide +kernel
theorem dX12_numbers_6 : decode cX12_numbers 6 = .ok (.i2l, 1) := by decide +kernel
theorem dX12_numbers_7 : decode cX12_numbers 7 = .ok (.lconst 0, 1) := by decide +kernel
theorem dX12_numbers_8 : decode cX12_numbers 8 = .ok (.ldc2_w 316, 3) := by decide +kernel
theorem dX12_numbers_11 : decode cX12_numbers 11 = .ok (.invokestatic 145, 3) := by decide +kernel
theorem dX12_numbers_14 : decode cX12_numbers 14 = .ok (.ifCond .eq 15, 3) := by decide +kernel
theorem dX12_numbers_17 : decode cX12_numbers 17 = .ok (.iload_n 2, 1) := by decide +kernel
theorem dX12_numbers_18 : decode cX12_numbers 18 = .ok (.i2l, 1) := by decide +kernel
theorem dX12_numbers_19 : decode cX12_numbers 19 = .ok (.lconst 0, 1) := by decide +kernel
theorem dX12_numbers_20 : decode cX12_numbers 20 = .ok (.ldc2_w 316, 3) := by decide +kernel
theorem dX12_numbers_23 : decode cX12_numbers 23 = .ok (.invokestatic 145, 3) := by decide +kernel
theorem dX12_numbers_26 : decode cX12_numbers 26 = .ok (.ifCond .ne 6, 3) := by decide +kernel
theorem dX12_numbers_29 : decode cX12_numbers 29 = .ok (.bipush (-2), 2) := by decide +kernel
theorem dX12_numbers_31 : decode cX12_numbers 31 = .ok (.ireturn, 1) := by decide +kernel
theorem dX12_numbers_32 : decode cX12_numbers 32 = .ok (.iload_n 3, 1) := by decide +kernel
theorem dX12_numbers_33 : decode cX12_numbers 33 = .ok (.i2l, 1) := by decide +kernel
theorem dX12_numbers_34 : decode cX12_numbers 34 = .ok (.lconst 0, 1) := by decide +kernel
theorem dX12_numbers_35 : decode cX12_numbers 35 = .ok (.ldc2_w 337, 3) := by decide +kernel
theorem dX12_numbers_38 : decode cX12_numbers 38 = .ok (.invokestatic 145, 3) := by decide +kernel
theorem dX12_numbers_41 : decode cX12_numbers 41 = .ok (.ifCond .ne 6, 3) := by decide +kernel
theorem dX12_numbers_44 : decode cX12_numbers 44 = .ok (.bipush (-3), 2) := by decide +kernel
theorem dX12_numbers_46 : decode cX12_numbers 46 = .ok (.ireturn, 1) := by decide +kernel
theorem dX12_numbers_47 : decode cX12_numbers 47 = .ok (.aload_n 0, 1) := by decide +kernel
theorem dX12_numbers_48 : decode cX12_numbers 48 = .ok (.getfield 70, 3) := by decide +kernel
theorem dX12_numbers_51 : decode cX12_numbers 51 = .ok (.iload_n 1, 1) := by decide +kernel
theorem dX12_numbers_52 : decode cX12_numbers 52 = .ok (.iload_n 2, 1) := by decide +kernel
theorem dX12_numbers_53 : decode cX12_numbers 53 = .ok (.iastore, 1) := by decide +kernel
theorem dX12_numbers_54 : decode cX12_numbers 54 = .ok (.aload_n 0, 1) := by decide +kernel
theorem dX12_numbers_55 : decode cX12_numbers 55 = .ok (.getfield 73, 3) := by decide +kernel
theorem dX12_numbers_58 : decode cX12_numbers 58 = .ok (.iload_n 1, 1) := by decide +kernel
theorem dX12_numbers_59 : decode cX12_numbers 59 = .ok (.iload_n 3, 1) := by decide +kernel
theorem dX12_numbers_60 : decode cX12_numbers 60 = .ok (.iastore, 1) := by decide +kernel
theorem dX12_numbers_61 : decode cX12_numbers 61 = .ok (.iconst 0, 1) := by decide +kernel
theorem dX12_numbers_62 : decode cX12_numbers 62 = .ok (.istore 4, 2) := by decide +kernel
theorem dX12_numbers_64 : decode cX12_numbers 64 = .ok (.iload 4, 2) := by decide +kernel
theorem dX12_numbers_66 : decode cX12_numbers 66 = .ok (.iload_n 3, 1) := by decide +kernel
theorem dX12_numbers_67 : decode cX12_numbers 67 = .ok (.if_icmp .ge 22, 3) := by decide +kernel
theorem dX12_numbers_70 : decode cX12_numbers 70 = .ok (.aload_n 0, 1) := by decide +kernel
theorem dX12_numbers_71 : decode cX12_numbers 71 = .ok (.getfield 76, 3) := by decide +kernel
theorem dX12_numbers_74 : decode cX12_numbers 74 = .ok (.bipush 40, 2) := by decide +kernel
theorem dX12_numbers_76 : decode cX12_numbers 76 = .ok (.iload_n 1, 1) := by decide +kernel
theorem dX12_numbers_77 : decode cX12_numbers 77 = .ok (.imul, 1) := by decide +kernel
theorem dX12_numbers_78 : decode cX12_numbers 78 = .ok (.iload 4, 2) := by decide +kernel
theorem dX12_numbers_80 : decode cX12_numbers 80 = .ok (.iadd, 1) := by decide +kernel
theorem dX12_numbers_81 : decode cX12_numbers 81 = .ok (.lconst 0, 1) := by decide +kernel
theorem dX12_numbers_82 : decode cX12_numbers 82 = .ok (.lastore, 1) := by decide +kernel
theorem dX12_numbers_83 : decode cX12_numbers 83 = .ok (.iinc 4 1, 3) := by decide +kernel
theorem dX12_numbers_86 : decode cX12_numbers 86 = .ok (.goto (-22), 3) := by decide +kernel
theorem dX12_numbers_89 : decode cX12_numbers 89 = .ok (.iconst 0, 1) := by decide +kernel
theorem dX12_numbers_90 : decode cX12_numbers 90 = .ok (.ireturn, 1) := by decide +kernel
def r_numbers_64 (F : Nat) (z : Nat) (g1 : Int32) (g2 : Int32) (g3 : Int32) : Nat → Int32 → (Nat → Nat → Int64) → Option (Int32 × (Nat → Nat → Int64))
  | 0, _, _ => none
  | k + 1, l4, J => if g3 ≤ l4 then (some (l4, J)) else (chk ((40 * g1) + l4) 160 (let J13 := uJ J (z + 20) (Int32.toNatClampNeg ((40 * g1) + l4)) 0; r_numbers_64 F z g1 g2 g3 k (l4 + 1) J13))
def r_numbers (F : Nat) (I : Nat → Nat → Int32) (J : Nat → Nat → Int64) (z : Nat) (v1 : Int32) (v2 : Int32) (v3 : Int32) : Option (Int32 × (Nat → Nat → Int32) × (Nat → Nat → Int64)) := let I1 := uI I z 0 0; if (r_within (Int32.toInt64 v1) 0 3) = 0 then (some ((-2), I1, J)) else (if (r_within (Int32.toInt64 v2) 0 3) = 0 then (some ((-2), I1, J)) else (if (r_within (Int32.toInt64 v3) 0 40) = 0 then (some ((-3), I1, J)) else (chk v1 4 (let I7 := uI I1 (z + 18) (Int32.toNatClampNeg v1) v2; let I9 := uI I7 (z + 19) (Int32.toNatClampNeg v1) v3; (r_numbers_64 F z v1 v2 v3 F 0 J).bind (fun q15 => let m17 := q15.1; let J18 := q15.2; some (0, I9, J18))))))
theorem l_r_numbers_64 {l : Launch} {D : va_G} {E : Nat → ClassId} {B : Nat → Prop} {n F : Nat} {Q : Option Value → HT → Prop} {T : Nat → Option (Nat × Nat)} {I : Nat → Nat → Int32} {P : Nat → Nat → Option Nat} {z : Nat} {g1 : Int32} {g2 : Int32} {g3 : Int32} (hs_z : isMd T P z)  (r : Int32 × (Nat → Nat → Int64)) : ∀ (k : Nat) (l4 : Int32) (J : (Nat → Nat → Int64)), r_numbers_64 F z g1 g2 g3 k l4 J = some r → V l D E B yX12_numbers cX12_numbers 5 (some .int) 1 0 0 Q 0 0 (n, T, I, r.2, P) 89 [(0, some (.ref z)), (1, some (.int g1)), (2, some (.int g2)), (3, some (.int g3)), (4, some (.int (r.1)))] [] → V l D E B yX12_numbers cX12_numbers 5 (some .int) 1 0 0 Q 0 0 (n, T, I, J, P) 64 [(0, some (.ref z)), (1, some (.int g1)), (2, some (.int g2)), (3, some (.int g3)), (4, some (.int l4))] [] := by
  intro k
  induction k with
  | zero =>
    intro l4 J hf hk
    cases hf
  | succ k ih =>
    intro l4 J hf hk
    unfold r_numbers_64 at hf
    refine V.iload dX12_numbers_64 rfl ?_
    refine V.iload_n dX12_numbers_66 rfl ?_
    refine V.icmp_ge 89 dX12_numbers_67 (by decide) (fun c11 => ?_) (fun c11 => ?_)
    · rw [if_pos c11] at hf
      obtain rfl := Option.some.inj hf
      exact V.lo [(0, some (.ref z)), (1, some (.int g1)), (2, some (.int g2)), (3, some (.int g3)), (4, some (.int l4))] (by simp only [Subs]; repeat' first | exact trivial | constructor | rfl) hk
    · rw [if_neg c11] at hf
      refine V.aload_n dX12_numbers_70 rfl ?_
      refine V.getr fl_X12_76 dX12_numbers_71 (hs_z.1 0 (12, 0) rfl) (hs_z.2 0 35 20 rfl) (by decide) rfl ?_
      refine V.bipush (v := 40) dX12_numbers_74 (by decide) ?_
      refine V.iload_n dX12_numbers_76 rfl ?_
      refine V.imul dX12_numbers_77 ?_
      refine V.iload dX12_numbers_78 rfl ?_
      refine V.iadd dX12_numbers_80 ?_
      refine V.lconst (v := 0) dX12_numbers_81 (by decide) ?_
      obtain ⟨hb12, hf⟩ := chk_some hf
      refine V.lastE dX12_numbers_82 (hs_z.1 20 (22, 160) rfl) hb12 (fun J13 e14 => ?_)
      rw [← e14] at hf
      try dsimp only at hf
      clear e14
      refine V.iinc (v := (l4 + 1)) dX12_numbers_83 rfl rfl (by first | exact rfl | exact trivial) ?_
      refine V.goto 64 dX12_numbers_86 (by decide) ?_
      exact V.lo [(0, some (.ref z)), (1, some (.int g1)), (2, some (.int g2)), (3, some (.int g3)), (4, some (.int (l4 + 1)))] (by simp only [Subs]; repeat' first | exact trivial | constructor | rfl) (ih _ _ hf hk)
theorem c_r_numbers {l : Launch} {D : va_G} {E : Nat → ClassId} {B : Nat → Prop} {n F : Nat} {T : Nat → Option (Nat × Nat)} {I : Nat → Nat → Int32} {J : Nat → Nat → Int64} {P : Nat → Nat → Option Nat} {z : Nat} {v1 : Int32} {v2 : Int32} {v3 : Int32} {r : Int32 × (Nat → Nat → Int32) × (Nat → Nat → Int64)} (hs_z : isMd T P z) (hf : r_numbers F I J z v1 v2 v3 = some r) : Ct l D E B yX12_numbers cX12_numbers 5 (some .int) 1 0 0 [.ref z, .int v1, .int v2, .int v3] (n, T, I, J, P) (Ret (some (.int r.1)) (n, T, r.2.1, r.2.2, P)) := by
  unfold r_numbers at hf
  refine Ct.ofV (by decide) (Nat.le_of_ble_eq_true rfl) ?_
  refine V.aload_n dX12_numbers_0 rfl ?_
  refine V.iconst (v := 0) dX12_numbers_1 (by decide) ?_
  refine V.putiE fl_X12_1 dX12_numbers_2 (hs_z.1 0 (12, 0) rfl) (by decide) (fun h => by cases h) rfl rfl rfl (Nat.le_of_ble_eq_true rfl) (fun I1 e2 => ?_)
  rw [← e2] at hf
  try dsimp only at hf
  clear e2
  refine V.iload_n dX12_numbers_5 rfl ?_
  refine V.i2l dX12_numbers_6 ?_
  refine V.lconst (v := 0) dX12_numbers_7 (by decide) ?_
  refine V.ldc2 dX12_numbers_8 kc_X12_316 ?_
  refine V.ins cs_X12_145 (c_r_within) dX12_numbers_11 rfl rfl (Nat.le_of_ble_eq_true rfl) (by decide) (by decide) (Nat.le_refl _) (Nat.le_refl _) (fun _ _ hq => ?_)
  obtain ⟨rfl, rfl⟩ := hq
  refine V.if_eq 29 dX12_numbers_14 (by decide) (fun c3 => ?_) (fun c3 => ?_)
  · rw [if_pos c3] at hf
    refine V.bipush (v := -2) dX12_numbers_29 (by decide) ?_
    obtain rfl := Option.some.inj hf
    exact V.iret dX12_numbers_31 rfl (Nat.le_refl _) (Nat.le_refl _) ⟨rfl, rfl⟩
  · rw [if_neg c3] at hf
    refine V.iload_n dX12_numbers_17 rfl ?_
    refine V.i2l dX12_numbers_18 ?_
    refine V.lconst (v := 0) dX12_numbers_19 (by decide) ?_
    refine V.ldc2 dX12_numbers_20 kc_X12_316 ?_
    refine V.ins cs_X12_145 (c_r_within) dX12_numbers_23 rfl rfl (Nat.le_of_ble_eq_true rfl) (by decide) (by decide) (Nat.le_refl _) (Nat.le_refl _) (fun _ _ hq => ?_)
    obtain ⟨rfl, rfl⟩ := hq
    refine V.if_ne 32 dX12_numbers_26 (by decide) (fun c4 => ?_) (fun c4 => ?_)
    · rw [if_neg c4] at hf
      refine V.iload_n dX12_numbers_32 rfl ?_
      refine V.i2l dX12_numbers_33 ?_
      refine V.lconst (v := 0) dX12_numbers_34 (by decide) ?_
      refine V.ldc2 dX12_numbers_35 kc_X12_337 ?_
      refine V.ins cs_X12_145 (c_r_within) dX12_numbers_38 rfl rfl (Nat.le_of_ble_eq_true rfl) (by decide) (by decide) (Nat.le_refl _) (Nat.le_refl _) (fun _ _ hq => ?_)
      obtain ⟨rfl, rfl⟩ := hq
      refine V.if_ne 47 dX12_numbers_41 (by decide) (fun c5 => ?_) (fun c5 => ?_)
      · rw [if_neg c5] at hf
        refine V.aload_n dX12_numbers_47 rfl ?_
        refine V.getr fl_X12_70 dX12_numbers_48 (hs_z.1 0 (12, 0) rfl) (hs_z.2 0 33 18 rfl) (by decide) rfl ?_
        refine V.iload_n dX12_numbers_51 rfl ?_
        refine V.iload_n dX12_numbers_52 rfl ?_
        obtain ⟨hb6, hf⟩ := chk_some hf
        refine V.iastE dX12_numbers_53 (hs_z.1 18 (20, 4) rfl) hb6 (fun I7 e8 => ?_)
        rw [← e8] at hf
        try dsimp only at hf
        clear e8
        refine V.aload_n dX12_numbers_54 rfl ?_
        refine V.getr fl_X12_73 dX12_numbers_55 (hs_z.1 0 (12, 0) rfl) (hs_z.2 0 34 19 rfl) (by decide) rfl ?_
        refine V.iload_n dX12_numbers_58 rfl ?_
        refine V.iload_n dX12_numbers_59 rfl ?_
        refine V.iastE dX12_numbers_60 (hs_z.1 19 (20, 4) rfl) hb6 (fun I9 e10 => ?_)
        rw [← e10] at hf
        try dsimp only at hf
        clear e10
        refine V.iconst (v := 0) dX12_numbers_61 (by decide) ?_
        refine V.istore dX12_numbers_62 (by decide) (by first | exact rfl | exact trivial) ?_
        obtain ⟨⟨m17, J18⟩, hk16, hf⟩ := bnd_some hf
        try dsimp only at hf
        refine V.lo [(0, some (.ref z)), (1, some (.int v1)), (2, some (.int v2)), (3, some (.int v3)), (4, some (.int 0))] (by simp only [Subs]; repeat' first | exact trivial | constructor | rfl) (l_r_numbers_64 hs_z _ F _ _ hk16 ?_)
        try dsimp only
        refine V.iconst (v := 0) dX12_numbers_89 (by decide) ?_
        obtain rfl := Option.some.inj hf
        exact V.iret dX12_numbers_90 rfl (Nat.le_refl _) (Nat.le_refl _) ⟨rfl, rfl⟩
      · rw [if_pos c5] at hf
        refine V.bipush (v := -3) dX12_numbers_44 (by decide) ?_
        obtain rfl := Option.some.inj hf
        exact V.iret dX12_numbers_46 rfl (Nat.le_refl _) (Nat.le_refl _) ⟨rfl, rfl⟩
    · rw [if_pos c4] at hf
      refine V.bipush (v := -2) dX12_numbers_29 (by decide) ?_
      obtain rfl := Option.some.inj hf
      exact V.iret dX12_numbers_31 rfl (Nat.le_refl _) (Nat.le_refl _) ⟨rfl, rfl⟩
theorem dX12_write_0 : decode cX12_write 0 = .ok (.aload_n 0, 1) := by decide +kernel
theorem dX12_write_1 : decode cX12_write 1 = .ok (.iconst 0, 1) := by decide +kernel
theorem dX12_write_2 : decode cX12_write 2 = .ok (.putfield 1, 3) := by decide +kernel
theorem dX12_write_5 : decode cX12_write 5 = .ok (.aload_n 0, 1) := by decide +kernel
theorem dX12_write_6 : decode cX12_write 6 = .ok (.iload_n 1, 1) := by decide +kernel
theorem dX12_write_7 : decode cX12_write 7 = .ok (.invokevirtual 318, 3) := by decide +kernel
theorem dX12_write_10 : decode cX12_write 10 = .ok (.istore 5, 2) := by decide +kernel
theorem dX12_write_12 : decode cX12_write 12 = .ok (.iload 5, 2) := by decide +kernel
theorem dX12_write_14 : decode cX12_write 14 = .ok (.ifCond .eq 7, 3) := by decide +kernel
theorem dX12_write_17 : decode cX12_write 17 = .ok (.iload 5, 2) := by decide +kernel
theorem dX12_write_19 : decode cX12_write 19 = .ok (.i2l, 1) := by decide +kernel
theorem dX12_write_20 : decode cX12_write 20 = .ok (.lreturn, 1) := by decide +kernel
theorem dX12_write_21 : decode cX12_write 21 = .ok (.iload_n 2, 1) := by decide +kernel
theorem dX12_write_22 : decode cX12_write 22 = .ok (.i2l, 1) := by decide +kernel
theorem dX12_write_23 : decode cX12_write 23 = .ok (.lconst 0, 1) := by decide +kernel
theorem dX12_write_24 : decode cX12_write 24 = .ok (.aload_n 0, 1) := by decide +kernel
theorem dX12_write_25 : decode cX12_write 25 = .ok (.getfield 73, 3) := by decide +kernel
theorem dX12_write_28 : decode cX12_write 28 = .ok (.iload_n 1, 1) := by decide +kernel
theorem dX12_write_29 : decode cX12_write 29 = .ok (.iaload, 1) := by decide +kernel
theorem dX12_write_30 : decode cX12_write 30 = .ok (.iconst 1, 1) := by decide +kernel
theorem dX12_write_31 : decode cX12_write 31 = .ok (.isub, 1) := by decide +kernel
theorem dX12_write_32 : decode cX12_write 32 = .ok (.i2l, 1) := by decide +kernel
theorem dX12_write_33 : decode cX12_write 33 = .ok (.invokestatic 145, 3) := by decide +kernel
theorem dX12_write_36 : decode cX12_write 36 = .ok (.ifCond .ne 7, 3) := by decide +kernel
theorem dX12_write_39 : decode cX12_write 39 = .ok (.ldc2_w 456, 3) := by decide +kernel
theorem dX12_write_42 : decode cX12_write 42 = .ok (.lreturn, 1) := by decide +kernel
theorem dX12_write_43 : decode cX12_write 43 = .ok (.aload_n 0, 1) := by decide +kernel
theorem dX12_write_44 : decode cX12_write 44 = .ok (.getfield 76, 3) := by decide +kernel
theorem dX12_write_47 : decode cX12_write 47 = .ok (.bipush 40, 2) := by decide +kernel
theorem dX12_write_49 : decode cX12_write 49 = .ok (.iload_n 1, 1) := by decide +kernel
theorem dX12_write_50 : decode cX12_write 50 = .ok (.imul, 1) := by decide +kernel
theorem dX12_write_51 : decode cX12_write 51 = .ok (.iload_n 2, 1) := by decide +kernel
theorem dX12_write_52 : decode cX12_write 52 = .ok (.iadd, 1) := by decide +kernel
theorem dX12_write_53 : decode cX12_write 53 = .ok (.lload_n 3, 1) := by decide +kernel
theorem dX12_write_54 : decode cX12_write 54 = .ok (.aload_n 0, 1) := by decide +kernel
theorem dX12_write_55 : decode cX12_write 55 = .ok (.getfield 70, 3) := by decide +kernel
theorem dX12_write_58 : decode cX12_write 58 = .ok (.iload_n 1, 1) := by decide +kernel
theorem dX12_write_59 : decode cX12_write 59 = .ok (.iaload, 1) := by decide +kernel
theorem dX12_write_60 : decode cX12_write 60 = .ok (.invokestatic 458, 3) := by decide +kernel
theorem dX12_write_63 : decode cX12_write 63 = .ok (.lastore, 1) := by decide +kernel
theorem dX12_write_64 : decode cX12_write 64 = .ok (.aload_n 0, 1) := by decide +kernel
theorem dX12_write_65 : decode cX12_write 65 = .ok (.getfield 76, 3) := by decide +kernel
theorem dX12_write_68 : decode cX12_write 68 = .ok (.bipush 40, 2) := by decide +kernel
theorem dX12_write_70 : decode cX12_write 70 = .ok (.iload_n 1, 1) := by decide +kernel
theorem dX12_write_71 : decode cX12_write 71 = .ok (.imul, 1) := by decide +kernel
theorem dX12_write_72 : decode cX12_write 72 = .ok (.iload_n 2, 1) := by decide +kernel
theorem dX12_write_73 : decode cX12_write 73 = .ok (.iadd, 1) := by decide +kernel
theorem dX12_write_74 : decode cX12_write 74 = .ok (.laload, 1) := by decide +kernel
theorem dX12_write_75 : decode cX12_write 75 = .ok (.lreturn, 1) := by decide +kernel
def r_write (I : Nat → Nat → Int32) (J : Nat → Nat → Int64) (z : Nat) (v1 : Int32) (v2 : Int32) (v3 : Int64) : Option (Int64 × (Nat → Nat → Int32) × (Nat → Nat → Int64)) := let I1 := uI I z 0 0; (r_noTray I1 z v1).bind (fun q3 => let u5 := q3; if u5 = 0 then (chk v1 4 (if (r_within (Int32.toInt64 v2) 0 (Int32.toInt64 ((I1 (z + 19) (Int32.toNatClampNeg v1)) - 1))) = 0 then (some ((-7), I1, J)) else (chk ((40 * v1) + v2) 160 (let J10 := uJ J (z + 20) (Int32.toNatClampNeg ((40 * v1) + v2)) (r_cut v3 (I1 (z + 18) (Int32.toNatClampNeg v1))); some ((J10 (z + 20) (Int32.toNatClampNeg ((40 * v1) + v2))), I1, J10))))) else (some ((Int32.toInt64 u5), I1, J)))
theorem c_r_write {l : Launch} {D : va_G} {E : Nat → ClassId} {B : Nat → Prop} {n : Nat} {T : Nat → Option (Nat × Nat)} {I : Nat → Nat → Int32} {J : Nat → Nat → Int64} {P : Nat → Nat → Option Nat} {z : Nat} {v1 : Int32} {v2 : Int32} {v3 : Int64} {r : Int64 × (Nat → Nat → Int32) × (Nat → Nat → Int64)} (hs_z : isMd T P z) (hf : r_write I J z v1 v2 v3 = some r) : Ct l D E B yX12_write cX12_write 6 (some .long) 2 0 0 [.ref z, .int v1, .int v2, .long v3] (n, T, I, J, P) (Ret (some (.long r.1)) (n, T, r.2.1, r.2.2, P)) := by
  unfold r_write at hf
  refine Ct.ofV (by decide) (Nat.le_of_ble_eq_true rfl) ?_
  refine V.aload_n dX12_write_0 rfl ?_
  refine V.iconst (v := 0) dX12_write_1 (by decide) ?_
  refine V.putiE fl_X12_1 dX12_write_2 (hs_z.1 0 (12, 0) rfl) (by decide) (fun h => by cases h) rfl rfl rfl (Nat.le_of_ble_eq_true rfl) (fun I1 e2 => ?_)
  rw [← e2] at hf
  try dsimp only at hf
  clear e2
  refine V.aload_n dX12_write_5 rfl ?_
  refine V.iload_n dX12_write_6 rfl ?_
  obtain ⟨u5, hk4, hf⟩ := bnd_some hf
  try dsimp only at hf
  refine V.inv cv_X12_318 (c_r_noTray hs_z hk4) dX12_write_7 (hs_z.1 0 (12, 0) rfl) (by decide) rfl rfl rfl (Nat.le_of_ble_eq_true rfl) (by decide) (by decide) (Nat.le_refl _) (Nat.le_refl _) (fun _ _ hq => ?_)
  obtain ⟨rfl, rfl⟩ := hq
  refine V.istore dX12_write_10 (by decide) (by first | exact rfl | exact trivial) ?_
  refine V.iload dX12_write_12 rfl ?_
  refine V.if_eq 21 dX12_write_14 (by decide) (fun c6 => ?_) (fun c6 => ?_)
  · rw [if_pos c6] at hf
    refine V.iload_n dX12_write_21 rfl ?_
    refine V.i2l dX12_write_22 ?_
    refine V.lconst (v := 0) dX12_write_23 (by decide) ?_
    refine V.aload_n dX12_write_24 rfl ?_
    refine V.getr fl_X12_73 dX12_write_25 (hs_z.1 0 (12, 0) rfl) (hs_z.2 0 34 19 rfl) (by decide) rfl ?_
    refine V.iload_n dX12_write_28 rfl ?_
    obtain ⟨hb7, hf⟩ := chk_some hf
    refine V.iald dX12_write_29 (hs_z.1 19 (20, 4) rfl) hb7 ?_
    refine V.iconst (v := 1) dX12_write_30 (by decide) ?_
    refine V.isub dX12_write_31 ?_
    refine V.i2l dX12_write_32 ?_
    refine V.ins cs_X12_145 (c_r_within) dX12_write_33 rfl rfl (Nat.le_of_ble_eq_true rfl) (by decide) (by decide) (Nat.le_refl _) (Nat.le_refl _) (fun _ _ hq => ?_)
    obtain ⟨rfl, rfl⟩ := hq
    refine V.if_ne 43 dX12_write_36 (by decide) (fun c8 => ?_) (fun c8 => ?_)
    · rw [if_neg c8] at hf
      refine V.aload_n dX12_write_43 rfl ?_
      refine V.getr fl_X12_76 dX12_write_44 (hs_z.1 0 (12, 0) rfl) (hs_z.2 0 35 20 rfl) (by decide) rfl ?_
      refine V.bipush (v := 40) dX12_write_47 (by decide) ?_
      refine V.iload_n dX12_write_49 rfl ?_
      refine V.imul dX12_write_50 ?_
      refine V.iload_n dX12_write_51 rfl ?_
      refine V.iadd dX12_write_52 ?_
      refine V.lload_n dX12_write_53 rfl ?_
      refine V.aload_n dX12_write_54 rfl ?_
      refine V.getr fl_X12_70 dX12_write_55 (hs_z.1 0 (12, 0) rfl) (hs_z.2 0 33 18 rfl) (by decide) rfl ?_
      refine V.iload_n dX12_write_58 rfl ?_
      refine V.iald dX12_write_59 (hs_z.1 18 (20, 4) rfl) hb7 ?_
      refine V.ins cs_X12_458 (c_r_cut) dX12_write_60 rfl rfl (Nat.le_of_ble_eq_true rfl) (by decide) (by decide) (Nat.le_refl _) (Nat.le_refl _) (fun _ _ hq => ?_)
      obtain ⟨rfl, rfl⟩ := hq
      obtain ⟨hb9, hf⟩ := chk_some hf
      refine V.lastE dX12_write_63 (hs_z.1 20 (22, 160) rfl) hb9 (fun J10 e11 => ?_)
      rw [← e11] at hf
      try dsimp only at hf
      clear e11
      refine V.aload_n dX12_write_64 rfl ?_
      refine V.getr fl_X12_76 dX12_write_65 (hs_z.1 0 (12, 0) rfl) (hs_z.2 0 35 20 rfl) (by decide) rfl ?_
      refine V.bipush (v := 40) dX12_write_68 (by decide) ?_
      refine V.iload_n dX12_write_70 rfl ?_
      refine V.imul dX12_write_71 ?_
      refine V.iload_n dX12_write_72 rfl ?_
      refine V.iadd dX12_write_73 ?_
      refine V.lald dX12_write_74 (hs_z.1 20 (22, 160) rfl) hb9 ?_
      obtain rfl := Option.some.inj hf
      exact V.lret dX12_write_75 rfl (Nat.le_refl _) (Nat.le_refl _) ⟨rfl, rfl⟩
    · rw [if_pos c8] at hf
      refine V.ldc2 dX12_write_39 kc_X12_456 ?_
      obtain rfl := Option.some.inj hf
      exact V.lret dX12_write_42 rfl (Nat.le_refl _) (Nat.le_refl _) ⟨rfl, rfl⟩
  · rw [if_neg c6] at hf
    refine V.iload dX12_write_17 rfl ?_
    refine V.i2l dX12_write_19 ?_
    obtain rfl := Option.some.inj hf
    exact V.lret dX12_write_20 rfl (Nat.le_refl _) (Nat.le_refl _) ⟨rfl, rfl⟩
theorem dX12_image_0 : decode cX12_image 0 = .ok (.aload_n 0, 1) := by decide +kernel
theorem dX12_image_1 : decode cX12_image 1 = .ok (.iconst 0, 1) := by decide +kernel
theorem dX12_image_2 : decode cX12_image 2 = .ok (.putfield 1, 3) := by decide +kernel
theorem dX12_image_5 : decode cX12_image 5 = .ok (.iload_n 1, 1) := by decide +kernel
theorem dX12_image_6 : decode cX12_image 6 = .ok (.i2l, 1) := by decide +kernel
theorem dX12_image_7 : decode cX12_image 7 = .ok (.lconst 0, 1) := by decide +kernel
theorem dX12_image_8 : decode cX12_image 8 = .ok (.lconst 1, 1) := by decide +kernel
theorem dX12_image_9 : decode cX12_image 9 = .ok (.invokestatic 145, 3) := by decide +kernel
theorem dX12_image_12 : decode cX12_image 12 = .ok (.ifCond .ne 6, 3) := by decide +kernel
theorem dX12_image_15 : decode cX12_image 15 = .ok (.bipush (-2), 2) := by decide +kernel
theorem dX12_image_17 : decode cX12_image 17 = .ok (.ireturn, 1) := by decide +kernel
theorem dX12_image_18 : decode cX12_image 18 = .ok (.iconst 0, 1) := by decide +kernel
theorem dX12_image_19 : decode cX12_image 19 = .ok (.istore_n 2, 1) := by decide +kernel
theorem dX12_image_20 : decode cX12_image 20 = .ok (.iload_n 2, 1) := by decide +kernel
theorem dX12_image_21 : decode cX12_image 21 = .ok (.sipush 1297, 3) := by decide +kernel
theorem dX12_image_24 : decode cX12_image 24 = .ok (.if_icmp .ge 29, 3) := by decide +kernel
theorem dX12_image_27 : decode cX12_image 27 = .ok (.aload_n 0, 1) := by decide +kernel
theorem dX12_image_28 : decode cX12_image 28 = .ok (.getfield 13, 3) := by decide +kernel
theorem dX12_image_31 : decode cX12_image 31 = .ok (.sipush 1297, 3) := by decide +kernel
theorem dX12_image_34 : decode cX12_image 34 = .ok (.iload_n 1, 1) := by decide +kernel
theorem dX12_image_35 : decode cX12_image 35 = .ok (.iconst 1, 1) := by decide +kernel
theorem dX12_image_36 : decode cX12_image 36 = .ok (.iadd, 1) := by decide +kernel
theorem dX12_image_37 : decode cX12_image 37 = .ok (.imul, 1) := by decide +kernel
theorem dX12_image_38 : decode cX12_image 38 = .ok (.iload_n 2, 1) := by decide +kernel
theorem dX12_image_39 : decode cX12_image 39 = .ok (.iadd, 1) := by decide +kernel
theorem dX12_image_40 : decode cX12_image 40 = .ok (.aload_n 0, 1) := by decide +kernel
theorem dX12_image_41 : decode cX12_image 41 = .ok (.getfield 13, 3) := by decide +kernel
theorem dX12_image_44 : decode cX12_image 44 = .ok (.iload_n 2, 1) := by decide +kernel
theorem dX12_image_45 : decode cX12_image 45 = .ok (.iaload, 1) := by decide +kernel
theorem dX12_image_46 : decode cX12_image 46 = .ok (.iastore, 1) := by decide +kernel
theorem dX12_image_47 : decode cX12_image 47 = .ok (.iinc 2 1, 3) := by decide +kernel
theorem dX12_image_50 : decode cX12_image 50 = .ok (.goto (-30), 3) := by decide +kernel
theorem dX12_image_53 : decode cX12_image 53 = .ok (.aload_n 0, 1) := by decide +kernel
theorem dX12_image_54 : decode cX12_image 54 = .ok (.getfield 17, 3) := by decide +kernel
theorem dX12_image_57 : decode cX12_image 57 = .ok (.iload_n 1, 1) := by decide +kernel
theorem dX12_image_58 : decode cX12_image 58 = .ok (.iconst 1, 1) := by decide +kernel
theorem dX12_image_59 : decode cX12_image 59 = .ok (.bastore, 1) := by decide +kernel
theorem dX12_image_60 : decode cX12_image 60 = .ok (.iconst 0, 1) := by decide +kernel
theorem dX12_image_61 : decode cX12_image 61 = .ok (.ireturn, 1) := by decide +kernel
def r_image_20 (F : Nat) (z : Nat) (g1 : Int32) : Nat → Int32 → (Nat → Nat → Int32) → Option (Int32 × (Nat → Nat → Int32))
  | 0, _, _ => none
  | k + 1, l2, I => if 1297 ≤ l2 then (some (l2, I)) else (chk l2 3891 (chk ((1297 * (g1 + 1)) + l2) 3891 (let I7 := uI I (z + 1) (Int32.toNatClampNeg ((1297 * (g1 + 1)) + l2)) (I (z + 1) (Int32.toNatClampNeg l2)); r_image_20 F z g1 k (l2 + 1) I7)))
def r_image (F : Nat) (I : Nat → Nat → Int32) (z : Nat) (v1 : Int32) : Option (Int32 × (Nat → Nat → Int32)) := let I1 := uI I z 0 0; if (r_within (Int32.toInt64 v1) 0 1) = 0 then (some ((-2), I1)) else ((r_image_20 F z v1 F 0 I1).bind (fun q9 => let m11 := q9.1; let I12 := q9.2; chk v1 2 (let I14 := uI I12 (z + 2) (Int32.toNatClampNeg v1) (vp_nar .boolean 1); some (0, I14))))
theorem l_r_image_20 {l : Launch} {D : va_G} {E : Nat → ClassId} {B : Nat → Prop} {n F : Nat} {Q : Option Value → HT → Prop} {T : Nat → Option (Nat × Nat)} {J : Nat → Nat → Int64} {P : Nat → Nat → Option Nat} {z : Nat} {g1 : Int32} (hs_z : isMd T P z)  (r : Int32 × (Nat → Nat → Int32)) : ∀ (k : Nat) (l2 : Int32) (I : (Nat → Nat → Int32)), r_image_20 F z g1 k l2 I = some r → V l D E B yX12_image cX12_image 3 (some .int) 1 0 0 Q 0 0 (n, T, r.2, J, P) 53 [(0, some (.ref z)), (1, some (.int g1)), (2, some (.int (r.1)))] [] → V l D E B yX12_image cX12_image 3 (some .int) 1 0 0 Q 0 0 (n, T, I, J, P) 20 [(0, some (.ref z)), (1, some (.int g1)), (2, some (.int l2))] [] := by
  intro k
  induction k with
  | zero =>
    intro l2 I hf hk
    cases hf
  | succ k ih =>
    intro l2 I hf hk
    unfold r_image_20 at hf
    refine V.iload_n dX12_image_20 rfl ?_
    refine V.sipush (v := 1297) dX12_image_21 (by decide) ?_
    refine V.icmp_ge 53 dX12_image_24 (by decide) (fun c4 => ?_) (fun c4 => ?_)
    · rw [if_pos c4] at hf
      obtain rfl := Option.some.inj hf
      exact V.lo [(0, some (.ref z)), (1, some (.int g1)), (2, some (.int l2))] (by simp only [Subs]; repeat' first | exact trivial | constructor | rfl) hk
    · rw [if_neg c4] at hf
      refine V.aload_n dX12_image_27 rfl ?_
      refine V.getr fl_X12_13 dX12_image_28 (hs_z.1 0 (12, 0) rfl) (hs_z.2 0 1 1 rfl) (by decide) rfl ?_
      refine V.sipush (v := 1297) dX12_image_31 (by decide) ?_
      refine V.iload_n dX12_image_34 rfl ?_
      refine V.iconst (v := 1) dX12_image_35 (by decide) ?_
      refine V.iadd dX12_image_36 ?_
      refine V.imul dX12_image_37 ?_
      refine V.iload_n dX12_image_38 rfl ?_
      refine V.iadd dX12_image_39 ?_
      refine V.aload_n dX12_image_40 rfl ?_
      refine V.getr fl_X12_13 dX12_image_41 (hs_z.1 0 (12, 0) rfl) (hs_z.2 0 1 1 rfl) (by decide) rfl ?_
      refine V.iload_n dX12_image_44 rfl ?_
      obtain ⟨hb5, hf⟩ := chk_some hf
      refine V.iald dX12_image_45 (hs_z.1 1 (20, 3891) rfl) hb5 ?_
      obtain ⟨hb6, hf⟩ := chk_some hf
      refine V.iastE dX12_image_46 (hs_z.1 1 (20, 3891) rfl) hb6 (fun I7 e8 => ?_)
      rw [← e8] at hf
      try dsimp only at hf
      clear e8
      refine V.iinc (v := (l2 + 1)) dX12_image_47 rfl rfl (by first | exact rfl | exact trivial) ?_
      refine V.goto 20 dX12_image_50 (by decide) ?_
      exact V.lo [(0, some (.ref z)), (1, some (.int g1)), (2, some (.int (l2 + 1)))] (by simp only [Subs]; repeat' first | exact trivial | constructor | rfl) (ih _ _ hf hk)
theorem c_r_image {l : Launch} {D : va_G} {E : Nat → ClassId} {B : Nat → Prop} {n F : Nat} {T : Nat → Option (Nat × Nat)} {I : Nat → Nat → Int32} {J : Nat → Nat → Int64} {P : Nat → Nat → Option Nat} {z : Nat} {v1 : Int32} {r : Int32 × (Nat → Nat → Int32)} (hs_z : isMd T P z) (hf : r_image F I z v1 = some r) : Ct l D E B yX12_image cX12_image 3 (some .int) 1 0 0 [.ref z, .int v1] (n, T, I, J, P) (Ret (some (.int r.1)) (n, T, r.2, J, P)) := by
  unfold r_image at hf
  refine Ct.ofV (by decide) (Nat.le_of_ble_eq_true rfl) ?_
  refine V.aload_n dX12_image_0 rfl ?_
  refine V.iconst (v := 0) dX12_image_1 (by decide) ?_
  refine V.putiE fl_X12_1 dX12_image_2 (hs_z.1 0 (12, 0) rfl) (by decide) (fun h => by cases h) rfl rfl rfl (Nat.le_of_ble_eq_true rfl) (fun I1 e2 => ?_)
  rw [← e2] at hf
  try dsimp only at hf
  clear e2
  refine V.iload_n dX12_image_5 rfl ?_
  refine V.i2l dX12_image_6 ?_
  refine V.lconst (v := 0) dX12_image_7 (by decide) ?_
  refine V.lconst (v := 1) dX12_image_8 (by decide) ?_
  refine V.ins cs_X12_145 (c_r_within) dX12_image_9 rfl rfl (Nat.le_of_ble_eq_true rfl) (by decide) (by decide) (Nat.le_refl _) (Nat.le_refl _) (fun _ _ hq => ?_)
  obtain ⟨rfl, rfl⟩ := hq
  refine V.if_ne 18 dX12_image_12 (by decide) (fun c3 => ?_) (fun c3 => ?_)
  · rw [if_neg c3] at hf
    refine V.iconst (v := 0) dX12_image_18 (by decide) ?_
    refine V.istore_n dX12_image_19 rfl (by decide) (by first | exact rfl | exact trivial) ?_
    obtain ⟨⟨m11, I12⟩, hk10, hf⟩ := bnd_some hf
    try dsimp only at hf
    refine V.lo [(0, some (.ref z)), (1, some (.int v1)), (2, some (.int 0))] (by simp only [Subs]; repeat' first | exact trivial | constructor | rfl) (l_r_image_20 hs_z _ F _ _ hk10 ?_)
    try dsimp only
    refine V.aload_n dX12_image_53 rfl ?_
    refine V.getr fl_X12_17 dX12_image_54 (hs_z.1 0 (12, 0) rfl) (hs_z.2 0 2 2 rfl) (by decide) rfl ?_
    refine V.iload_n dX12_image_57 rfl ?_
    refine V.iconst (v := 1) dX12_image_58 (by decide) ?_
    obtain ⟨hb13, hf⟩ := chk_some hf
    refine V.zastE dX12_image_59 (hs_z.1 2 (23, 2) rfl) hb13 (fun I14 e15 => ?_)
    rw [← e15] at hf
    try dsimp only at hf
    clear e15
    refine V.iconst (v := 0) dX12_image_60 (by decide) ?_
    obtain rfl := Option.some.inj hf
    exact V.iret dX12_image_61 rfl (Nat.le_refl _) (Nat.le_refl _) ⟨rfl, rfl⟩
  · rw [if_pos c3] at hf
    refine V.bipush (v := -2) dX12_image_15 (by decide) ?_
    obtain rfl := Option.some.inj hf
    exact V.iret dX12_image_17 rfl (Nat.le_refl _) (Nat.le_refl _) ⟨rfl, rfl⟩
theorem dX12_restore_0 : decode cX12_restore 0 = .ok (.aload_n 0, 1) := by decide +kernel
theorem dX12_restore_1 : decode cX12_restore 1 = .ok (.iconst 0, 1) := by decide +kernel
theorem dX12_restore_2 : decode cX12_restore 2 = .ok (.putfield 1, 3) := by decide +kernel
theorem dX12_restore_5 : decode cX12_restore 5 = .ok (.iload_n 1, 1) := by decide +kernel
theorem dX12_restore_6 : decode cX12_restore 6 = .ok (.i2l, 1) := by decide +kernel
theorem dX12_restore_7 : decode cX12_restore 7 = .ok (.lconst 0, 1) := by decide +kernel
theorem dX12_restore_8 : decode cX12_restore 8 = .ok (.lconst 1, 1) := by decide +kernel
theorem dX12_restore_9 : decode cX12_restore 9 = .ok (.invokestatic 145, 3) := by decide +kernel
theorem dX12_restore_12 : decode cX12_restore 12 = .ok (.ifCond .ne 6, 3) := by decide +kernel
theorem dX12_restore_15 : decode cX12_restore 15 = .ok (.bipush (-2), 2) := by decide +kernel
theorem dX12_restore_17 : decode cX12_restore 17 = .ok (.ireturn, 1) := by decide +kernel
theorem dX12_restore_18 : decode cX12_restore 18 = .ok (.aload_n 0, 1) := by decide +kernel
theorem dX12_restore_19 : decode cX12_restore 19 = .ok (.getfield 17, 3) := by decide +kernel
theorem dX12_restore_22 : decode cX12_restore 22 = .ok (.iload_n 1, 1) := by decide +kernel
theorem dX12_restore_23 : decode cX12_restore 23 = .ok (.baload, 1) := by decide +kernel
theorem dX12_restore_24 : decode cX12_restore 24 = .ok (.ifCond .ne 6, 3) := by decide +kernel
theorem dX12_restore_27 : decode cX12_restore 27 = .ok (.bipush (-5), 2) := by decide +kernel
theorem dX12_restore_29 : decode cX12_restore 29 = .ok (.ireturn, 1) := by decide +kernel
theorem dX12_restore_30 : decode cX12_restore 30 = .ok (.iconst 0, 1) := by decide +kernel
theorem dX12_restore_31 : decode cX12_restore 31 = .ok (.istore_n 2, 1) := by decide +kernel
theorem dX12_restore_32 : decode cX12_restore 32 = .ok (.iload_n 2, 1) := by decide +kernel
theorem dX12_restore_33 : decode cX12_restore 33 = .ok (.sipush 1297, 3) := by decide +kernel
theorem dX12_restore_36 : decode cX12_restore 36 = .ok (.if_icmp .ge 29, 3) := by decide +kernel
theorem dX12_restore_39 : decode cX12_restore 39 = .ok (.aload_n 0, 1) := by decide +kernel
theorem dX12_restore_40 : decode cX12_restore 40 = .ok (.getfield 13, 3) := by decide +kernel
theorem dX12_restore_43 : decode cX12_restore 43 = .ok (.iload_n 2, 1) := by decide +kernel
theorem dX12_restore_44 : decode cX12_restore 44 = .ok (.aload_n 0, 1) := by decide +kernel
theorem dX12_restore_45 : decode cX12_restore 45 = .ok (.getfield 13, 3) := by decide +kernel
theorem dX12_restore_48 : decode cX12_restore 48 = .ok (.sipush 1297, 3) := by decide +kernel
theorem dX12_restore_51 : decode cX12_restore 51 = .ok (.iload_n 1, 1) := by decide +kernel
theorem dX12_restore_52 : decode cX12_restore 52 = .ok (.iconst 1, 1) := by decide +kernel
theorem dX12_restore_53 : decode cX12_restore 53 = .ok (.iadd, 1) := by decide +kernel
theorem dX12_restore_54 : decode cX12_restore 54 = .ok (.imul, 1) := by decide +kernel
theorem dX12_restore_55 : decode cX12_restore 55 = .ok (.iload_n 2, 1) := by decide +kernel
theorem dX12_restore_56 : decode cX12_restore 56 = .ok (.iadd, 1) := by decide +kernel
theorem dX12_restore_57 : decode cX12_restore 57 = .ok (.iaload, 1) := by decide +kernel
theorem dX12_restore_58 : decode cX12_restore 58 = .ok (.iastore, 1) := by decide +kernel
theorem dX12_restore_59 : decode cX12_restore 59 = .ok (.iinc 2 1, 3) := by decide +kernel
theorem dX12_restore_62 : decode cX12_restore 62 = .ok (.goto (-30), 3) := by decide +kernel
theorem dX12_restore_65 : decode cX12_restore 65 = .ok (.aload_n 0, 1) := by decide +kernel
theorem dX12_restore_66 : decode cX12_restore 66 = .ok (.getfield 13, 3) := by decide +kernel
theorem dX12_restore_69 : decode cX12_restore 69 = .ok (.bipush 65, 2) := by decide +kernel
theorem dX12_restore_71 : decode cX12_restore 71 = .ok (.iconst 0, 1) := by decide +kernel
theorem dX12_restore_72 : decode cX12_restore 72 = .ok (.iastore, 1) := by decide +kernel
theorem dX12_restore_73 : decode cX12_restore 73 = .ok (.iconst 0, 1) := by decide +kernel
theorem dX12_restore_74 : decode cX12_restore 74 = .ok (.ireturn, 1) := by decide +kernel
def r_restore_32 (F : Nat) (z : Nat) (g1 : Int32) : Nat → Int32 → (Nat → Nat → Int32) → Option (Int32 × (Nat → Nat → Int32))
  | 0, _, _ => none
  | k + 1, l2, I => if 1297 ≤ l2 then (some (l2, I)) else (chk ((1297 * (g1 + 1)) + l2) 3891 (chk l2 3891 (let I9 := uI I (z + 1) (Int32.toNatClampNeg l2) (I (z + 1) (Int32.toNatClampNeg ((1297 * (g1 + 1)) + l2))); r_restore_32 F z g1 k (l2 + 1) I9)))
def r_restore (F : Nat) (I : Nat → Nat → Int32) (z : Nat) (v1 : Int32) : Option (Int32 × (Nat → Nat → Int32)) := let I1 := uI I z 0 0; if (r_within (Int32.toInt64 v1) 0 1) = 0 then (some ((-2), I1)) else (chk v1 2 (if (I1 (z + 2) (Int32.toNatClampNeg v1)) = 0 then (some ((-5), I1)) else ((r_restore_32 F z v1 F 0 I1).bind (fun q11 => let m13 := q11.1; let I14 := q11.2; let I15 := uI I14 (z + 1) (Int32.toNatClampNeg 65) 0; some (0, I15)))))
theorem l_r_restore_32 {l : Launch} {D : va_G} {E : Nat → ClassId} {B : Nat → Prop} {n F : Nat} {Q : Option Value → HT → Prop} {T : Nat → Option (Nat × Nat)} {J : Nat → Nat → Int64} {P : Nat → Nat → Option Nat} {z : Nat} {g1 : Int32} (hs_z : isMd T P z)  (r : Int32 × (Nat → Nat → Int32)) : ∀ (k : Nat) (l2 : Int32) (I : (Nat → Nat → Int32)), r_restore_32 F z g1 k l2 I = some r → V l D E B yX12_restore cX12_restore 3 (some .int) 1 0 0 Q 0 0 (n, T, r.2, J, P) 65 [(0, some (.ref z)), (1, some (.int g1)), (2, some (.int (r.1)))] [] → V l D E B yX12_restore cX12_restore 3 (some .int) 1 0 0 Q 0 0 (n, T, I, J, P) 32 [(0, some (.ref z)), (1, some (.int g1)), (2, some (.int l2))] [] := by
  intro k
  induction k with
  | zero =>
    intro l2 I hf hk
    cases hf
  | succ k ih =>
    intro l2 I hf hk
    unfold r_restore_32 at hf
    refine V.iload_n dX12_restore_32 rfl ?_
    refine V.sipush (v := 1297) dX12_restore_33 (by decide) ?_
    refine V.icmp_ge 65 dX12_restore_36 (by decide) (fun c6 => ?_) (fun c6 => ?_)
    · rw [if_pos c6] at hf
      obtain rfl := Option.some.inj hf
      exact V.lo [(0, some (.ref z)), (1, some (.int g1)), (2, some (.int l2))] (by simp only [Subs]; repeat' first | exact trivial | constructor | rfl) hk
    · rw [if_neg c6] at hf
      refine V.aload_n dX12_restore_39 rfl ?_
      refine V.getr fl_X12_13 dX12_restore_40 (hs_z.1 0 (12, 0) rfl) (hs_z.2 0 1 1 rfl) (by decide) rfl ?_
      refine V.iload_n dX12_restore_43 rfl ?_
      refine V.aload_n dX12_restore_44 rfl ?_
      refine V.getr fl_X12_13 dX12_restore_45 (hs_z.1 0 (12, 0) rfl) (hs_z.2 0 1 1 rfl) (by decide) rfl ?_
      refine V.sipush (v := 1297) dX12_restore_48 (by decide) ?_
      refine V.iload_n dX12_restore_51 rfl ?_
      refine V.iconst (v := 1) dX12_restore_52 (by decide) ?_
      refine V.iadd dX12_restore_53 ?_
      refine V.imul dX12_restore_54 ?_
      refine V.iload_n dX12_restore_55 rfl ?_
      refine V.iadd dX12_restore_56 ?_
      obtain ⟨hb7, hf⟩ := chk_some hf
      refine V.iald dX12_restore_57 (hs_z.1 1 (20, 3891) rfl) hb7 ?_
      obtain ⟨hb8, hf⟩ := chk_some hf
      refine V.iastE dX12_restore_58 (hs_z.1 1 (20, 3891) rfl) hb8 (fun I9 e10 => ?_)
      rw [← e10] at hf
      try dsimp only at hf
      clear e10
      refine V.iinc (v := (l2 + 1)) dX12_restore_59 rfl rfl (by first | exact rfl | exact trivial) ?_
      refine V.goto 32 dX12_restore_62 (by decide) ?_
      exact V.lo [(0, some (.ref z)), (1, some (.int g1)), (2, some (.int (l2 + 1)))] (by simp only [Subs]; repeat' first | exact trivial | constructor | rfl) (ih _ _ hf hk)
theorem c_r_restore {l : Launch} {D : va_G} {E : Nat → ClassId} {B : Nat → Prop} {n F : Nat} {T : Nat → Option (Nat × Nat)} {I : Nat → Nat → Int32} {J : Nat → Nat → Int64} {P : Nat → Nat → Option Nat} {z : Nat} {v1 : Int32} {r : Int32 × (Nat → Nat → Int32)} (hs_z : isMd T P z) (hf : r_restore F I z v1 = some r) : Ct l D E B yX12_restore cX12_restore 3 (some .int) 1 0 0 [.ref z, .int v1] (n, T, I, J, P) (Ret (some (.int r.1)) (n, T, r.2, J, P)) := by
  unfold r_restore at hf
  refine Ct.ofV (by decide) (Nat.le_of_ble_eq_true rfl) ?_
  refine V.aload_n dX12_restore_0 rfl ?_
  refine V.iconst (v := 0) dX12_restore_1 (by decide) ?_
  refine V.putiE fl_X12_1 dX12_restore_2 (hs_z.1 0 (12, 0) rfl) (by decide) (fun h => by cases h) rfl rfl rfl (Nat.le_of_ble_eq_true rfl) (fun I1 e2 => ?_)
  rw [← e2] at hf
  try dsimp only at hf
  clear e2
  refine V.iload_n dX12_restore_5 rfl ?_
  refine V.i2l dX12_restore_6 ?_
  refine V.lconst (v := 0) dX12_restore_7 (by decide) ?_
  refine V.lconst (v := 1) dX12_restore_8 (by decide) ?_
  refine V.ins cs_X12_145 (c_r_within) dX12_restore_9 rfl rfl (Nat.le_of_ble_eq_true rfl) (by decide) (by decide) (Nat.le_refl _) (Nat.le_refl _) (fun _ _ hq => ?_)
  obtain ⟨rfl, rfl⟩ := hq
  refine V.if_ne 18 dX12_restore_12 (by decide) (fun c3 => ?_) (fun c3 => ?_)
  · rw [if_neg c3] at hf
    refine V.aload_n dX12_restore_18 rfl ?_
    refine V.getr fl_X12_17 dX12_restore_19 (hs_z.1 0 (12, 0) rfl) (hs_z.2 0 2 2 rfl) (by decide) rfl ?_
    refine V.iload_n dX12_restore_22 rfl ?_
    obtain ⟨hb4, hf⟩ := chk_some hf
    refine V.zald dX12_restore_23 (hs_z.1 2 (23, 2) rfl) hb4 ?_
    refine V.if_ne 30 dX12_restore_24 (by decide) (fun c5 => ?_) (fun c5 => ?_)
    · rw [if_neg c5] at hf
      refine V.iconst (v := 0) dX12_restore_30 (by decide) ?_
      refine V.istore_n dX12_restore_31 rfl (by decide) (by first | exact rfl | exact trivial) ?_
      obtain ⟨⟨m13, I14⟩, hk12, hf⟩ := bnd_some hf
      try dsimp only at hf
      refine V.lo [(0, some (.ref z)), (1, some (.int v1)), (2, some (.int 0))] (by simp only [Subs]; repeat' first | exact trivial | constructor | rfl) (l_r_restore_32 hs_z _ F _ _ hk12 ?_)
      try dsimp only
      refine V.aload_n dX12_restore_65 rfl ?_
      refine V.getr fl_X12_13 dX12_restore_66 (hs_z.1 0 (12, 0) rfl) (hs_z.2 0 1 1 rfl) (by decide) rfl ?_
      refine V.bipush (v := 65) dX12_restore_69 (by decide) ?_
      refine V.iconst (v := 0) dX12_restore_71 (by decide) ?_
      refine V.iastE dX12_restore_72 (hs_z.1 1 (20, 3891) rfl) (vp_lit (by decide)) (fun I15 e16 => ?_)
      rw [← e16] at hf
      try dsimp only at hf
      clear e16
      refine V.iconst (v := 0) dX12_restore_73 (by decide) ?_
      obtain rfl := Option.some.inj hf
      exact V.iret dX12_restore_74 rfl (Nat.le_refl _) (Nat.le_refl _) ⟨rfl, rfl⟩
    · rw [if_pos c5] at hf
      refine V.bipush (v := -5) dX12_restore_27 (by decide) ?_
      obtain rfl := Option.some.inj hf
      exact V.iret dX12_restore_29 rfl (Nat.le_refl _) (Nat.le_refl _) ⟨rfl, rfl⟩
  · rw [if_pos c3] at hf
    refine V.bipush (v := -2) dX12_restore_15 (by decide) ?_
    obtain rfl := Option.some.inj hf
    exact V.iret dX12_restore_17 rfl (Nat.le_refl _) (Nat.le_refl _) ⟨rfl, rfl⟩
theorem dX12_strengths_0 : decode cX12_strengths 0 = .ok (.iconst 0, 1) := by decide +kernel
theorem dX12_strengths_1 : decode cX12_strengths 1 = .ok (.istore_n 1, 1) := by decide +kernel
theorem dX12_strengths_2 : decode cX12_strengths 2 = .ok (.iconst 0, 1) := by decide +kernel
theorem dX12_strengths_3 : decode cX12_strengths 3 = .ok (.istore_n 2, 1) := by decide +kernel
theorem dX12_strengths_4 : decode cX12_strengths 4 = .ok (.iload_n 2, 1) := by decide +kernel
theorem dX12_strengths_5 : decode cX12_strengths 5 = .ok (.aload_n 0, 1) := by decide +kernel
theorem dX12_strengths_6 : decode cX12_strengths 6 = .ok (.getfield 13, 3) := by decide +kernel
theorem dX12_strengths_9 : decode cX12_strengths 9 = .ok (.iconst 1, 1) := by decide +kernel
theorem dX12_strengths_10 : decode cX12_strengths 10 = .ok (.iaload, 1) := by decide +kernel
theorem dX12_strengths_11 : decode cX12_strengths 11 = .ok (.if_icmp .ge 21, 3) := by decide +kernel
theorem dX12_strengths_14 : decode cX12_strengths 14 = .ok (.iload_n 1, 1) := by decide +kernel
theorem dX12_strengths_15 : decode cX12_strengths 15 = .ok (.aload_n 0, 1) := by decide +kernel
theorem dX12_strengths_16 : decode cX12_strengths 16 = .ok (.getfield 13, 3) := by decide +kernel
theorem dX12_strengths_19 : decode cX12_strengths 19 = .ok (.bipush 41, 2) := by decide +kernel
theorem dX12_strengths_21 : decode cX12_strengths 21 = .ok (.iload_n 2, 1) := by decide +kernel
theorem dX12_strengths_22 : decode cX12_strengths 22 = .ok (.iadd, 1) := by decide +kernel
theorem dX12_strengths_23 : decode cX12_strengths 23 = .ok (.iaload, 1) := by decide +kernel
theorem dX12_strengths_24 : decode cX12_strengths 24 = .ok (.iadd, 1) := by decide +kernel
theorem dX12_strengths_25 : decode cX12_strengths 25 = .ok (.istore_n 1, 1) := by decide +kernel
theorem dX12_strengths_26 : decode cX12_strengths 26 = .ok (.iinc 2 1, 3) := by decide +kernel
theorem dX12_strengths_29 : decode cX12_strengths 29 = .ok (.goto (-25), 3) := by decide +kernel
theorem dX12_strengths_32 : decode cX12_strengths 32 = .ok (.iload_n 1, 1) := by decide +kernel
theorem dX12_strengths_33 : decode cX12_strengths 33 = .ok (.ireturn, 1) := by decide +kernel
def r_strengths_4 (F : Nat) (I : Nat → Nat → Int32) (z : Nat) : Nat → Int32 → Int32 → Option (Int32 × Int32)
  | 0, _, _ => none
  | k + 1, l1, l2 => if (I (z + 1) (Int32.toNatClampNeg 1)) ≤ l2 then (some (l1, l2)) else (chk (41 + l2) 3891 (let x3 := (l1 + (I (z + 1) (Int32.toNatClampNeg (41 + l2)))); r_strengths_4 F I z k x3 (l2 + 1)))
def r_strengths (F : Nat) (I : Nat → Nat → Int32) (z : Nat) : Option (Int32) := (r_strengths_4 F I z F 0 0).bind (fun q5 => let m7 := q5.1; let m8 := q5.2; some m7)
theorem l_r_strengths_4 {l : Launch} {D : va_G} {E : Nat → ClassId} {B : Nat → Prop} {n F : Nat} {Q : Option Value → HT → Prop} {T : Nat → Option (Nat × Nat)} {I : Nat → Nat → Int32} {J : Nat → Nat → Int64} {P : Nat → Nat → Option Nat} {z : Nat}  (hs_z : isMd T P z)  (r : Int32 × Int32) : ∀ (k : Nat) (l1 : Int32) (l2 : Int32), r_strengths_4 F I z k l1 l2 = some r → V l D E B yX12_strengths cX12_strengths 3 (some .int) 0 0 0 Q 0 0 (n, T, I, J, P) 32 [(0, some (.ref z)), (1, some (.int (r.1))), (2, some (.int (r.2)))] [] → V l D E B yX12_strengths cX12_strengths 3 (some .int) 0 0 0 Q 0 0 (n, T, I, J, P) 4 [(0, some (.ref z)), (1, some (.int l1)), (2, some (.int l2))] [] := by
  intro k
  induction k with
  | zero =>
    intro l1 l2 hf hk
    cases hf
  | succ k ih =>
    intro l1 l2 hf hk
    unfold r_strengths_4 at hf
    refine V.iload_n dX12_strengths_4 rfl ?_
    refine V.aload_n dX12_strengths_5 rfl ?_
    refine V.getr fl_X12_13 dX12_strengths_6 (hs_z.1 0 (12, 0) rfl) (hs_z.2 0 1 1 rfl) (by decide) rfl ?_
    refine V.iconst (v := 1) dX12_strengths_9 (by decide) ?_
    refine V.iald dX12_strengths_10 (hs_z.1 1 (20, 3891) rfl) (vp_lit (by decide)) ?_
    refine V.icmp_ge 32 dX12_strengths_11 (by decide) (fun c1 => ?_) (fun c1 => ?_)
    · rw [if_pos c1] at hf
      obtain rfl := Option.some.inj hf
      exact V.lo [(0, some (.ref z)), (1, some (.int l1)), (2, some (.int l2))] (by simp only [Subs]; repeat' first | exact trivial | constructor | rfl) hk
    · rw [if_neg c1] at hf
      refine V.iload_n dX12_strengths_14 rfl ?_
      refine V.aload_n dX12_strengths_15 rfl ?_
      refine V.getr fl_X12_13 dX12_strengths_16 (hs_z.1 0 (12, 0) rfl) (hs_z.2 0 1 1 rfl) (by decide) rfl ?_
      refine V.bipush (v := 41) dX12_strengths_19 (by decide) ?_
      refine V.iload_n dX12_strengths_21 rfl ?_
      refine V.iadd dX12_strengths_22 ?_
      obtain ⟨hb2, hf⟩ := chk_some hf
      refine V.iald dX12_strengths_23 (hs_z.1 1 (20, 3891) rfl) hb2 ?_
      refine V.iadd dX12_strengths_24 ?_
      refine V.istore_n dX12_strengths_25 rfl (by decide) (by first | exact rfl | exact trivial) ?_
      obtain ⟨x3, e4⟩ : ∃ zz_, zz_ = (l1 + (I (z + 1) (Int32.toNatClampNeg (41 + l2)))) := ⟨_, rfl⟩
      rw [← e4] at hf ⊢
      try dsimp only at hf
      refine V.iinc (v := (l2 + 1)) dX12_strengths_26 rfl rfl (by first | exact rfl | exact trivial) ?_
      refine V.goto 4 dX12_strengths_29 (by decide) ?_
      exact V.lo [(0, some (.ref z)), (1, some (.int x3)), (2, some (.int (l2 + 1)))] (by simp only [Subs]; repeat' first | exact trivial | constructor | rfl) (ih _ _ hf hk)
theorem c_r_strengths {l : Launch} {D : va_G} {E : Nat → ClassId} {B : Nat → Prop} {n F : Nat} {T : Nat → Option (Nat × Nat)} {I : Nat → Nat → Int32} {J : Nat → Nat → Int64} {P : Nat → Nat → Option Nat} {z : Nat}  {r : Int32} (hs_z : isMd T P z) (hf : r_strengths F I z = some r) : Ct l D E B yX12_strengths cX12_strengths 3 (some .int) 0 0 0 [.ref z] (n, T, I, J, P) (Ret (some (.int r)) (n, T, I, J, P)) := by
  unfold r_strengths at hf
  refine Ct.ofV (by decide) (Nat.le_of_ble_eq_true rfl) ?_
  refine V.iconst (v := 0) dX12_strengths_0 (by decide) ?_
  refine V.istore_n dX12_strengths_1 rfl (by decide) (by first | exact rfl | exact trivial) ?_
  refine V.iconst (v := 0) dX12_strengths_2 (by decide) ?_
  refine V.istore_n dX12_strengths_3 rfl (by decide) (by first | exact rfl | exact trivial) ?_
  obtain ⟨⟨m7, m8⟩, hk6, hf⟩ := bnd_some hf
  try dsimp only at hf
  refine V.lo [(0, some (.ref z)), (1, some (.int 0)), (2, some (.int 0))] (by simp only [Subs]; repeat' first | exact trivial | constructor | rfl) (l_r_strengths_4 hs_z _ F _ _ hk6 ?_)
  try dsimp only
  refine V.iload_n dX12_strengths_32 rfl ?_
  obtain rfl := Option.some.inj hf
  exact V.iret dX12_strengths_33 rfl (Nat.le_refl _) (Nat.le_refl _) ⟨rfl, rfl⟩
theorem dX12_count_0 : decode cX12_count 0 = .ok (.aload_n 0, 1) := by decide +kernel
theorem dX12_count_1 : decode cX12_count 1 = .ok (.iconst 0, 1) := by decide +kernel
theorem dX12_count_2 : decode cX12_count 2 = .ok (.putfield 1, 3) := by decide +kernel
theorem dX12_count_5 : decode cX12_count 5 = .ok (.iload_n 1, 1) := by decide +kernel
theorem dX12_count_6 : decode cX12_count 6 = .ok (.tableswitch 136 0 10 #[58, 65, 72, 79, 87, 98, 106, 111, 116, 124, 129], 58) := by decide +kernel
theorem dX12_count_64 : decode cX12_count 64 = .ok (.aload_n 0, 1) := by decide +kernel
theorem dX12_count_65 : decode cX12_count 65 = .ok (.getfield 13, 3) := by decide +kernel
theorem dX12_count_68 : decode cX12_count 68 = .ok (.iconst 1, 1) := by decide +kernel
theorem dX12_count_69 : decode cX12_count 69 = .ok (.iaload, 1) := by decide +kernel
theorem dX12_count_70 : decode cX12_count 70 = .ok (.ireturn, 1) := by decide +kernel
theorem dX12_count_71 : decode cX12_count 71 = .ok (.aload_n 0, 1) := by decide +kernel
theorem dX12_count_72 : decode cX12_count 72 = .ok (.getfield 13, 3) := by decide +kernel
theorem dX12_count_75 : decode cX12_count 75 = .ok (.iconst 2, 1) := by decide +kernel
theorem dX12_count_76 : decode cX12_count 76 = .ok (.iaload, 1) := by decide +kernel
theorem dX12_count_77 : decode cX12_count 77 = .ok (.ireturn, 1) := by decide +kernel
theorem dX12_count_78 : decode cX12_count 78 = .ok (.aload_n 0, 1) := by decide +kernel
theorem dX12_count_79 : decode cX12_count 79 = .ok (.getfield 13, 3) := by decide +kernel
theorem dX12_count_82 : decode cX12_count 82 = .ok (.iconst 3, 1) := by decide +kernel
theorem dX12_count_83 : decode cX12_count 83 = .ok (.iaload, 1) := by decide +kernel
theorem dX12_count_84 : decode cX12_count 84 = .ok (.ireturn, 1) := by decide +kernel
theorem dX12_count_85 : decode cX12_count 85 = .ok (.aload_n 0, 1) := by decide +kernel
theorem dX12_count_86 : decode cX12_count 86 = .ok (.getfield 13, 3) := by decide +kernel
theorem dX12_count_89 : decode cX12_count 89 = .ok (.bipush 32, 2) := by decide +kernel
theorem dX12_count_91 : decode cX12_count 91 = .ok (.iaload, 1) := by decide +kernel
theorem dX12_count_92 : decode cX12_count 92 = .ok (.ireturn, 1) := by decide +kernel
theorem dX12_count_93 : decode cX12_count 93 = .ok (.aload_n 0, 1) := by decide +kernel
theorem dX12_count_94 : decode cX12_count 94 = .ok (.getfield 13, 3) := by decide +kernel
theorem dX12_count_97 : decode cX12_count 97 = .ok (.bipush 32, 2) := by decide +kernel
theorem dX12_count_99 : decode cX12_count 99 = .ok (.iaload, 1) := by decide +kernel
theorem dX12_count_100 : decode cX12_count 100 = .ok (.invokestatic 230, 3) := by decide +kernel
theorem dX12_count_103 : decode cX12_count 103 = .ok (.ireturn, 1) := by decide +kernel
theorem dX12_count_104 : decode cX12_count 104 = .ok (.aload_n 0, 1) := by decide +kernel
theorem dX12_count_105 : decode cX12_count 105 = .ok (.getfield 13, 3) := by decide +kernel
theorem dX12_count_108 : decode cX12_count 108 = .ok (.bipush 33, 2) := by decide +kernel
theorem dX12_count_110 : decode cX12_count 110 = .ok (.iaload, 1) := by decide +kernel
theorem dX12_count_111 : decode cX12_count 111 = .ok (.ireturn, 1) := by decide +kernel
theorem dX12_count_112 : decode cX12_count 112 = .ok (.aload_n 0, 1) := by decide +kernel
theorem dX12_count_113 : decode cX12_count 113 = .ok (.invokevirtual 462, 3) := by decide +kernel
theorem dX12_count_116 : decode cX12_count 116 = .ok (.ireturn, 1) := by decide +kernel
theorem dX12_count_117 : decode cX12_count 117 = .ok (.aload_n 0, 1) := by decide +kernel
theorem dX12_count_118 : decode cX12_count 118 = .ok (.invokevirtual 439, 3) := by decide +kernel
theorem dX12_count_121 : decode cX12_count 121 = .ok (.ireturn, 1) := by decide +kernel
theorem dX12_count_122 : decode cX12_count 122 = .ok (.aload_n 0, 1) := by decide +kernel
theorem dX12_count_123 : decode cX12_count 123 = .ok (.getfield 13, 3) := by decide +kernel
theorem dX12_count_126 : decode cX12_count 126 = .ok (.bipush 65, 2) := by decide +kernel
theorem dX12_count_128 : decode cX12_count 128 = .ok (.iaload, 1) := by decide +kernel
theorem dX12_count_129 : decode cX12_count 129 = .ok (.ireturn, 1) := by decide +kernel
theorem dX12_count_130 : decode cX12_count 130 = .ok (.aload_n 0, 1) := by decide +kernel
theorem dX12_count_131 : decode cX12_count 131 = .ok (.getfield 83, 3) := by decide +kernel
theorem dX12_count_134 : decode cX12_count 134 = .ok (.ireturn, 1) := by decide +kernel
theorem dX12_count_135 : decode cX12_count 135 = .ok (.aload_n 0, 1) := by decide +kernel
theorem dX12_count_136 : decode cX12_count 136 = .ok (.getfield 13, 3) := by decide +kernel
theorem dX12_count_139 : decode cX12_count 139 = .ok (.iconst 0, 1) := by decide +kernel
theorem dX12_count_140 : decode cX12_count 140 = .ok (.iaload, 1) := by decide +kernel
theorem dX12_count_141 : decode cX12_count 141 = .ok (.ireturn, 1) := by decide +kernel
theorem dX12_count_142 : decode cX12_count 142 = .ok (.iconst (-1), 1) := by decide +kernel
theorem dX12_count_143 : decode cX12_count 143 = .ok (.ireturn, 1) := by decide +kernel
def r_count (F : Nat) (I : Nat → Nat → Int32) (z : Nat) (v1 : Int32) : Option (Int32 × (Nat → Nat → Int32)) := let I1 := uI I z 0 0; if v1 = 0 then (some ((I1 (z + 1) (Int32.toNatClampNeg 1)), I1)) else (if v1 = 1 then (some ((I1 (z + 1) (Int32.toNatClampNeg 2)), I1)) else (if v1 = 2 then (some ((I1 (z + 1) (Int32.toNatClampNeg 3)), I1)) else (if v1 = 3 then (some ((I1 (z + 1) (Int32.toNatClampNeg 32)), I1)) else (if v1 = 4 then ((r_bitsOf F (I1 (z + 1) (Int32.toNatClampNeg 32))).bind (fun q8 => let u10 := q8; some (u10, I1))) else (if v1 = 5 then (some ((I1 (z + 1) (Int32.toNatClampNeg 33)), I1)) else (if v1 = 6 then ((r_strengths F I1 z).bind (fun q13 => let u15 := q13; some (u15, I1))) else (if v1 = 7 then ((r_oddsAll F I1 z).bind (fun q17 => let u19 := q17; some (u19, I1))) else (if v1 = 8 then (some ((I1 (z + 1) (Int32.toNatClampNeg 65)), I1)) else (if v1 = 9 then (some ((I1 z 5), I1)) else (if v1 = 10 then (some ((I1 (z + 1) (Int32.toNatClampNeg 0)), I1)) else (some ((-1), I1))))))))))))
theorem c_r_count {l : Launch} {D : va_G} {E : Nat → ClassId} {B : Nat → Prop} {n F : Nat} {T : Nat → Option (Nat × Nat)} {I : Nat → Nat → Int32} {J : Nat → Nat → Int64} {P : Nat → Nat → Option Nat} {z : Nat} {v1 : Int32} {r : Int32 × (Nat → Nat → Int32)} (hs_z : isMd T P z) (hf : r_count F I z v1 = some r) : Ct l D E B yX12_count cX12_count 2 (some .int) 1 0 0 [.ref z, .int v1] (n, T, I, J, P) (Ret (some (.int r.1)) (n, T, r.2, J, P)) := by
  unfold r_count at hf
  refine Ct.ofV (by decide) (Nat.le_of_ble_eq_true rfl) ?_
  refine V.aload_n dX12_count_0 rfl ?_
  refine V.iconst (v := 0) dX12_count_1 (by decide) ?_
  refine V.putiE fl_X12_1 dX12_count_2 (hs_z.1 0 (12, 0) rfl) (by decide) (fun h => by cases h) rfl rfl rfl (Nat.le_of_ble_eq_true rfl) (fun I1 e2 => ?_)
  rw [← e2] at hf
  try dsimp only at hf
  clear e2
  refine V.iload_n dX12_count_5 rfl ?_
  by_cases c3 : v1 = 0
  · rw [if_pos c3] at hf
    refine V.tabIn (off := 58) 64 dX12_count_6 (by rw [c3]; decide) (by rw [c3]; decide) (by rw [c3]; rfl) (by decide) ?_
    refine V.aload_n dX12_count_64 rfl ?_
    refine V.getr fl_X12_13 dX12_count_65 (hs_z.1 0 (12, 0) rfl) (hs_z.2 0 1 1 rfl) (by decide) rfl ?_
    refine V.iconst (v := 1) dX12_count_68 (by decide) ?_
    refine V.iald dX12_count_69 (hs_z.1 1 (20, 3891) rfl) (vp_lit (by decide)) ?_
    obtain rfl := Option.some.inj hf
    exact V.iret dX12_count_70 rfl (Nat.le_refl _) (Nat.le_refl _) ⟨rfl, rfl⟩
  rw [if_neg c3] at hf
  by_cases c4 : v1 = 1
  · rw [if_pos c4] at hf
    refine V.tabIn (off := 65) 71 dX12_count_6 (by rw [c4]; decide) (by rw [c4]; decide) (by rw [c4]; rfl) (by decide) ?_
    refine V.aload_n dX12_count_71 rfl ?_
    refine V.getr fl_X12_13 dX12_count_72 (hs_z.1 0 (12, 0) rfl) (hs_z.2 0 1 1 rfl) (by decide) rfl ?_
    refine V.iconst (v := 2) dX12_count_75 (by decide) ?_
    refine V.iald dX12_count_76 (hs_z.1 1 (20, 3891) rfl) (vp_lit (by decide)) ?_
    obtain rfl := Option.some.inj hf
    exact V.iret dX12_count_77 rfl (Nat.le_refl _) (Nat.le_refl _) ⟨rfl, rfl⟩
  rw [if_neg c4] at hf
  by_cases c5 : v1 = 2
  · rw [if_pos c5] at hf
    refine V.tabIn (off := 72) 78 dX12_count_6 (by rw [c5]; decide) (by rw [c5]; decide) (by rw [c5]; rfl) (by decide) ?_
    refine V.aload_n dX12_count_78 rfl ?_
    refine V.getr fl_X12_13 dX12_count_79 (hs_z.1 0 (12, 0) rfl) (hs_z.2 0 1 1 rfl) (by decide) rfl ?_
    refine V.iconst (v := 3) dX12_count_82 (by decide) ?_
    refine V.iald dX12_count_83 (hs_z.1 1 (20, 3891) rfl) (vp_lit (by decide)) ?_
    obtain rfl := Option.some.inj hf
    exact V.iret dX12_count_84 rfl (Nat.le_refl _) (Nat.le_refl _) ⟨rfl, rfl⟩
  rw [if_neg c5] at hf
  by_cases c6 : v1 = 3
  · rw [if_pos c6] at hf
    refine V.tabIn (off := 79) 85 dX12_count_6 (by rw [c6]; decide) (by rw [c6]; decide) (by rw [c6]; rfl) (by decide) ?_
    refine V.aload_n dX12_count_85 rfl ?_
    refine V.getr fl_X12_13 dX12_count_86 (hs_z.1 0 (12, 0) rfl) (hs_z.2 0 1 1 rfl) (by decide) rfl ?_
    refine V.bipush (v := 32) dX12_count_89 (by decide) ?_
    refine V.iald dX12_count_91 (hs_z.1 1 (20, 3891) rfl) (vp_lit (by decide)) ?_
    obtain rfl := Option.some.inj hf
    exact V.iret dX12_count_92 rfl (Nat.le_refl _) (Nat.le_refl _) ⟨rfl, rfl⟩
  rw [if_neg c6] at hf
  by_cases c7 : v1 = 4
  · rw [if_pos c7] at hf
    refine V.tabIn (off := 87) 93 dX12_count_6 (by rw [c7]; decide) (by rw [c7]; decide) (by rw [c7]; rfl) (by decide) ?_
    refine V.aload_n dX12_count_93 rfl ?_
    refine V.getr fl_X12_13 dX12_count_94 (hs_z.1 0 (12, 0) rfl) (hs_z.2 0 1 1 rfl) (by decide) rfl ?_
    refine V.bipush (v := 32) dX12_count_97 (by decide) ?_
    refine V.iald dX12_count_99 (hs_z.1 1 (20, 3891) rfl) (vp_lit (by decide)) ?_
    obtain ⟨u10, hk9, hf⟩ := bnd_some hf
    try dsimp only at hf
    refine V.ins cs_X12_230 (c_r_bitsOf hk9) dX12_count_100 rfl rfl (Nat.le_of_ble_eq_true rfl) (by decide) (by decide) (Nat.le_refl _) (Nat.le_refl _) (fun _ _ hq => ?_)
    obtain ⟨rfl, rfl⟩ := hq
    obtain rfl := Option.some.inj hf
    exact V.iret dX12_count_103 rfl (Nat.le_refl _) (Nat.le_refl _) ⟨rfl, rfl⟩
  rw [if_neg c7] at hf
  by_cases c11 : v1 = 5
  · rw [if_pos c11] at hf
    refine V.tabIn (off := 98) 104 dX12_count_6 (by rw [c11]; decide) (by rw [c11]; decide) (by rw [c11]; rfl) (by decide) ?_
    refine V.aload_n dX12_count_104 rfl ?_
    refine V.getr fl_X12_13 dX12_count_105 (hs_z.1 0 (12, 0) rfl) (hs_z.2 0 1 1 rfl) (by decide) rfl ?_
    refine V.bipush (v := 33) dX12_count_108 (by decide) ?_
    refine V.iald dX12_count_110 (hs_z.1 1 (20, 3891) rfl) (vp_lit (by decide)) ?_
    obtain rfl := Option.some.inj hf
    exact V.iret dX12_count_111 rfl (Nat.le_refl _) (Nat.le_refl _) ⟨rfl, rfl⟩
  rw [if_neg c11] at hf
  by_cases c12 : v1 = 6
  · rw [if_pos c12] at hf
    refine V.tabIn (off := 106) 112 dX12_count_6 (by rw [c12]; decide) (by rw [c12]; decide) (by rw [c12]; rfl) (by decide) ?_
    refine V.aload_n dX12_count_112 rfl ?_
    obtain ⟨u15, hk14, hf⟩ := bnd_some hf
    try dsimp only at hf
    refine V.inv cv_X12_462 (c_r_strengths hs_z hk14) dX12_count_113 (hs_z.1 0 (12, 0) rfl) (by decide) rfl rfl rfl (Nat.le_of_ble_eq_true rfl) (by decide) (by decide) (Nat.le_refl _) (Nat.le_refl _) (fun _ _ hq => ?_)
    obtain ⟨rfl, rfl⟩ := hq
    obtain rfl := Option.some.inj hf
    exact V.iret dX12_count_116 rfl (Nat.le_refl _) (Nat.le_refl _) ⟨rfl, rfl⟩
  rw [if_neg c12] at hf
  by_cases c16 : v1 = 7
  · rw [if_pos c16] at hf
    refine V.tabIn (off := 111) 117 dX12_count_6 (by rw [c16]; decide) (by rw [c16]; decide) (by rw [c16]; rfl) (by decide) ?_
    refine V.aload_n dX12_count_117 rfl ?_
    obtain ⟨u19, hk18, hf⟩ := bnd_some hf
    try dsimp only at hf
    refine V.inv cv_X12_439 (c_r_oddsAll hs_z hk18) dX12_count_118 (hs_z.1 0 (12, 0) rfl) (by decide) rfl rfl rfl (Nat.le_of_ble_eq_true rfl) (by decide) (by decide) (Nat.le_refl _) (Nat.le_refl _) (fun _ _ hq => ?_)
    obtain ⟨rfl, rfl⟩ := hq
    obtain rfl := Option.some.inj hf
    exact V.iret dX12_count_121 rfl (Nat.le_refl _) (Nat.le_refl _) ⟨rfl, rfl⟩
  rw [if_neg c16] at hf
  by_cases c20 : v1 = 8
  · rw [if_pos c20] at hf
    refine V.tabIn (off := 116) 122 dX12_count_6 (by rw [c20]; decide) (by rw [c20]; decide) (by rw [c20]; rfl) (by decide) ?_
    refine V.aload_n dX12_count_122 rfl ?_
    refine V.getr fl_X12_13 dX12_count_123 (hs_z.1 0 (12, 0) rfl) (hs_z.2 0 1 1 rfl) (by decide) rfl ?_
    refine V.bipush (v := 65) dX12_count_126 (by decide) ?_
    refine V.iald dX12_count_128 (hs_z.1 1 (20, 3891) rfl) (vp_lit (by decide)) ?_
    obtain rfl := Option.some.inj hf
    exact V.iret dX12_count_129 rfl (Nat.le_refl _) (Nat.le_refl _) ⟨rfl, rfl⟩
  rw [if_neg c20] at hf
  by_cases c21 : v1 = 9
  · rw [if_pos c21] at hf
    refine V.tabIn (off := 124) 130 dX12_count_6 (by rw [c21]; decide) (by rw [c21]; decide) (by rw [c21]; rfl) (by decide) ?_
    refine V.aload_n dX12_count_130 rfl ?_
    refine V.getf fl_X12_83 dX12_count_131 (hs_z.1 0 (12, 0) rfl) (by decide) rfl ?_
    obtain rfl := Option.some.inj hf
    exact V.iret dX12_count_134 rfl (Nat.le_refl _) (Nat.le_refl _) ⟨rfl, rfl⟩
  rw [if_neg c21] at hf
  by_cases c22 : v1 = 10
  · rw [if_pos c22] at hf
    refine V.tabIn (off := 129) 135 dX12_count_6 (by rw [c22]; decide) (by rw [c22]; decide) (by rw [c22]; rfl) (by decide) ?_
    refine V.aload_n dX12_count_135 rfl ?_
    refine V.getr fl_X12_13 dX12_count_136 (hs_z.1 0 (12, 0) rfl) (hs_z.2 0 1 1 rfl) (by decide) rfl ?_
    refine V.iconst (v := 0) dX12_count_139 (by decide) ?_
    refine V.iald dX12_count_140 (hs_z.1 1 (20, 3891) rfl) (vp_lit (by decide)) ?_
    obtain rfl := Option.some.inj hf
    exact V.iret dX12_count_141 rfl (Nat.le_refl _) (Nat.le_refl _) ⟨rfl, rfl⟩
  rw [if_neg c22] at hf
  refine V.tabOut 142 dX12_count_6 (by have c3_ := sw_ne c3 (j := 0) (by decide); have c4_ := sw_ne c4 (j := 1) (by decide); have c5_ := sw_ne c5 (j := 2) (by decide); have c6_ := sw_ne c6 (j := 3) (by decide); have c7_ := sw_ne c7 (j := 4) (by decide); have c11_ := sw_ne c11 (j := 5) (by decide); have c12_ := sw_ne c12 (j := 6) (by decide); have c16_ := sw_ne c16 (j := 7) (by decide); have c20_ := sw_ne c20 (j := 8) (by decide); have c21_ := sw_ne c21 (j := 9) (by decide); have c22_ := sw_ne c22 (j := 10) (by decide); omega) (by decide) ?_
  refine V.iconst (v := -1) dX12_count_142 (by decide) ?_
  obtain rfl := Option.some.inj hf
  exact V.iret dX12_count_143 rfl (Nat.le_refl _) (Nat.le_refl _) ⟨rfl, rfl⟩
